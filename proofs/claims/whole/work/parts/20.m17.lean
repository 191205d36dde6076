def f_L_law_J569 (lim : Nat × Nat) (X : List Int32) (M : Mem) (x1 : Nat) (x2 : Nat) (x3 : Int32) (y0 : Int32) (y1 : Nat) (y2 : Int32) (y3 : Int32) (y4 : Int32) (y5 : Int32) : Option ((Int32 × Mem) ⊕ ((Mem))) :=
  (ob M 12 y1).bind fun _ => (f_X12_who M y1 y2 y3 y4 y5).bind fun z1 =>
  (if y0 = z1.1 then
    some (.inl ((x3 + (6 : Int32)), z1.2))
  else
    none)
set_option maxRecDepth 20000 in
theorem J_L_law_569 {l : Launch} {G : Gv} {lim : Nat × Nat} (M : Mem) (x1 : Nat) (x2 : Nat) (x3 : Int32) (y0 : Int32) (y1 : Nat) (y2 : Int32) (y3 : Int32) (y4 : Int32) (y5 : Int32) (K : (Int32 × Mem) ⊕ ((Mem)) → Option (Option Value × Mem)) (kk1 : ∀ (s3 : Int32) (s_ : Mem), SimR l G Y_L_law lim (K (.inl (s3, s_))) 18 [some (.inr (.inr 4000)), some (.inr (.inr x1)), some (.inr (.inr x2)), some (.inl s3)] [] s_) (kk2_0 : ∀ (s_ : Mem), SimR l G Y_L_law lim (K (.inr s_)) 1851 [none, none, none, none] [] s_) : Sim l G Y_L_law lim (f_L_law_J569 lim G.2.2.2.2 M x1 x2 x3 y0 y1 y2 y3 y4 y5) K 569 [some (.inr (.inr 4000)), some (.inr (.inr x1)), some (.inr (.inr x2)), some (.inl x3)] [.inl y5, .inl y4, .inl y3, .inl y2, .inr (.inr y1), .inl y0] M := by
  unfold f_L_law_J569
  refine s_cV (Z := Y_X12_who) (c := 12) (vs := [.inl y2, .inl y3, .inl y4, .inl y5]) (st := [.inl y0]) (rO := fun z => some (.inl z.1)) (mO := fun z => z.2) zk_X12_who zi_X12_who q1641 rfl ⟨by decide, by decide⟩ ⟨rfl, rfl⟩ rfl rfl (Nat.le_of_ble_eq_true rfl) (by decide +kernel) (fun z hz => c_X12_who hz) (fun z1 => ?_)
  change Sim l G Y_L_law lim _ _ 572 [some (.inr (.inr 4000)), some (.inr (.inr x1)), some (.inr (.inr x2)), some (.inl x3)] [.inl z1.1, .inl y0] z1.2
  refine s_ic_eq (tgt := 1845) (off := 1273) (by decide +kernel) (by decide) (fun h2 => ?_) (fun h2 => ?_)
  · skip
    refine s_run (b := [(.iinc 3 6, 3), (.goto (-1830), 3)]) 18 [some (.inr (.inr 4000)), some (.inr (.inr x1)), some (.inr (.inr x2)), some (.inl (x3 + (6 : Int32)))] [] (by decide +kernel) rfl ?_
    exact s_lsub (ls' := [some (.inr (.inr 4000)), some (.inr (.inr x1)), some (.inr (.inr x2)), some (.inl (x3 + (6 : Int32)))]) ⟨rfl, ⟨rfl, ⟨rfl, ⟨rfl, trivial⟩⟩⟩⟩ (kk1 (x3 + (6 : Int32)) z1.2)
  · skip
    exact s_none
def f_L_law_J537 (lim : Nat × Nat) (X : List Int32) (M : Mem) (x1 : Nat) (x2 : Nat) (x3 : Int32) (y0 : Nat) (y1 : Int32) (y2 : Int32) (y3 : Int32) (y4 : Int32) : Option ((Int32 × Mem) ⊕ ((Mem))) :=
  (ob M 11 y0).bind fun _ => (f_X11_who M y0 y1 y2 y3 y4).bind fun z1 =>
  (scI X (x3 + (1 : Int32))).bind fun v2 =>
  (scI X (x3 + (2 : Int32))).bind fun v3 =>
  (scI X (x3 + (3 : Int32))).bind fun v4 =>
  (scI X (x3 + (4 : Int32))).bind fun v5 =>
  (if v5 = 0 then
    f_L_law_J569 lim X z1.2 x1 x2 x3 z1.1 x2 v2 v3 v4 (0 : Int32)
  else
    f_L_law_J569 lim X z1.2 x1 x2 x3 z1.1 x2 v2 v3 v4 (1 : Int32))
set_option maxRecDepth 20000 in
theorem J_L_law_537 {l : Launch} {G : Gv} {lim : Nat × Nat} (M : Mem) (x1 : Nat) (x2 : Nat) (x3 : Int32) (y0 : Nat) (y1 : Int32) (y2 : Int32) (y3 : Int32) (y4 : Int32) (K : (Int32 × Mem) ⊕ ((Mem)) → Option (Option Value × Mem)) (kk1 : ∀ (s3 : Int32) (s_ : Mem), SimR l G Y_L_law lim (K (.inl (s3, s_))) 18 [some (.inr (.inr 4000)), some (.inr (.inr x1)), some (.inr (.inr x2)), some (.inl s3)] [] s_) (kk2_0 : ∀ (s_ : Mem), SimR l G Y_L_law lim (K (.inr s_)) 1851 [none, none, none, none] [] s_) : Sim l G Y_L_law lim (f_L_law_J537 lim G.2.2.2.2 M x1 x2 x3 y0 y1 y2 y3 y4) K 537 [some (.inr (.inr 4000)), some (.inr (.inr x1)), some (.inr (.inr x2)), some (.inl x3)] [.inl y4, .inl y3, .inl y2, .inl y1, .inr (.inr y0)] M := by
  unfold f_L_law_J537
  refine s_cV (Z := Y_X11_who) (c := 11) (vs := [.inl y1, .inl y2, .inl y3, .inl y4]) (st := []) (rO := fun z => some (.inl z.1)) (mO := fun z => z.2) zk_X11_who zi_X11_who q841 rfl ⟨by decide, by decide⟩ ⟨rfl, rfl⟩ rfl rfl (Nat.le_of_ble_eq_true rfl) (by decide +kernel) (fun z hz => c_X11_who hz) (fun z1 => ?_)
  change Sim l G Y_L_law lim _ _ 540 [some (.inr (.inr 4000)), some (.inr (.inr x1)), some (.inr (.inr x2)), some (.inl x3)] [.inl z1.1] z1.2
  refine s_run (b := [(.aload_n 2, 1), (.aload_n 0, 1), (.iload_n 3, 1), (.iconst 1, 1), (.iadd, 1)]) 545 [some (.inr (.inr 4000)), some (.inr (.inr x1)), some (.inr (.inr x2)), some (.inl x3)] [.inl (x3 + (1 : Int32)), .inr (.inr 4000), .inr (.inr x2), .inl z1.1] (by decide +kernel) rfl ?_
  refine s_sc (by decide +kernel) (fun v2 => ?_)
  refine s_run (b := [(.aload_n 0, 1), (.iload_n 3, 1), (.iconst 2, 1), (.iadd, 1)]) 550 [some (.inr (.inr 4000)), some (.inr (.inr x1)), some (.inr (.inr x2)), some (.inl x3)] [.inl (x3 + (2 : Int32)), .inr (.inr 4000), .inl v2, .inr (.inr x2), .inl z1.1] (by decide +kernel) rfl ?_
  refine s_sc (by decide +kernel) (fun v3 => ?_)
  refine s_run (b := [(.aload_n 0, 1), (.iload_n 3, 1), (.iconst 3, 1), (.iadd, 1)]) 555 [some (.inr (.inr 4000)), some (.inr (.inr x1)), some (.inr (.inr x2)), some (.inl x3)] [.inl (x3 + (3 : Int32)), .inr (.inr 4000), .inl v3, .inl v2, .inr (.inr x2), .inl z1.1] (by decide +kernel) rfl ?_
  refine s_sc (by decide +kernel) (fun v4 => ?_)
  refine s_run (b := [(.aload_n 0, 1), (.iload_n 3, 1), (.iconst 4, 1), (.iadd, 1)]) 560 [some (.inr (.inr 4000)), some (.inr (.inr x1)), some (.inr (.inr x2)), some (.inl x3)] [.inl (x3 + (4 : Int32)), .inr (.inr 4000), .inl v4, .inl v3, .inl v2, .inr (.inr x2), .inl z1.1] (by decide +kernel) rfl ?_
  refine s_sc (by decide +kernel) (fun v5 => ?_)
  refine s_if_eq (tgt := 568) (off := 7) (by decide +kernel) (by decide) (fun h6 => ?_) (fun h6 => ?_)
  · skip
    refine s_run (b := [(.iconst 0, 1)]) 569 [some (.inr (.inr 4000)), some (.inr (.inr x1)), some (.inr (.inr x2)), some (.inl x3)] [.inl (0 : Int32), .inl v4, .inl v3, .inl v2, .inr (.inr x2), .inl z1.1] (by decide +kernel) rfl ?_
    exact s_lsub (ls' := [some (.inr (.inr 4000)), some (.inr (.inr x1)), some (.inr (.inr x2)), some (.inl x3)]) ⟨rfl, ⟨rfl, ⟨rfl, ⟨rfl, trivial⟩⟩⟩⟩ (J_L_law_569 z1.2 x1 x2 x3 z1.1 x2 v2 v3 v4 (0 : Int32) K kk1 kk2_0)
  · skip
    refine s_run (b := [(.iconst 1, 1), (.goto 4, 3)]) 569 [some (.inr (.inr 4000)), some (.inr (.inr x1)), some (.inr (.inr x2)), some (.inl x3)] [.inl (1 : Int32), .inl v4, .inl v3, .inl v2, .inr (.inr x2), .inl z1.1] (by decide +kernel) rfl ?_
    exact s_lsub (ls' := [some (.inr (.inr 4000)), some (.inr (.inr x1)), some (.inr (.inr x2)), some (.inl x3)]) ⟨rfl, ⟨rfl, ⟨rfl, ⟨rfl, trivial⟩⟩⟩⟩ (J_L_law_569 z1.2 x1 x2 x3 z1.1 x2 v2 v3 v4 (1 : Int32) K kk1 kk2_0)
def f_L_law_J651 (lim : Nat × Nat) (X : List Int32) (M : Mem) (x1 : Nat) (x2 : Nat) (x3 : Int32) (y0 : Int64) (y1 : Nat) (y2 : Int32) (y3 : Int32) (y4 : Int32) : Option ((Int32 × Mem) ⊕ ((Mem))) :=
  (ob M 12 y1).bind fun _ => (f_X12_odds M y1 y2 y3 y4).bind fun z1 =>
  (if (lg_cmp y0 z1.1) = 0 then
    some (.inl ((x3 + (6 : Int32)), z1.2))
  else
    none)
set_option maxRecDepth 20000 in
theorem J_L_law_651 {l : Launch} {G : Gv} {lim : Nat × Nat} (M : Mem) (x1 : Nat) (x2 : Nat) (x3 : Int32) (y0 : Int64) (y1 : Nat) (y2 : Int32) (y3 : Int32) (y4 : Int32) (K : (Int32 × Mem) ⊕ ((Mem)) → Option (Option Value × Mem)) (kk1 : ∀ (s3 : Int32) (s_ : Mem), SimR l G Y_L_law lim (K (.inl (s3, s_))) 18 [some (.inr (.inr 4000)), some (.inr (.inr x1)), some (.inr (.inr x2)), some (.inl s3)] [] s_) (kk2_0 : ∀ (s_ : Mem), SimR l G Y_L_law lim (K (.inr s_)) 1851 [none, none, none, none] [] s_) : Sim l G Y_L_law lim (f_L_law_J651 lim G.2.2.2.2 M x1 x2 x3 y0 y1 y2 y3 y4) K 651 [some (.inr (.inr 4000)), some (.inr (.inr x1)), some (.inr (.inr x2)), some (.inl x3)] [.inl y4, .inl y3, .inl y2, .inr (.inr y1), .inr (.inl y0)] M := by
  unfold f_L_law_J651
  refine s_cV (Z := Y_X12_odds) (c := 12) (vs := [.inl y2, .inl y3, .inl y4]) (st := [.inr (.inl y0)]) (rO := fun z => some (.inr (.inl z.1))) (mO := fun z => z.2) zk_X12_odds zi_X12_odds q1656 rfl ⟨by decide, by decide⟩ ⟨rfl, rfl⟩ rfl rfl (Nat.le_of_ble_eq_true rfl) (by decide +kernel) (fun z hz => c_X12_odds hz) (fun z1 => ?_)
  change Sim l G Y_L_law lim _ _ 654 [some (.inr (.inr 4000)), some (.inr (.inr x1)), some (.inr (.inr x2)), some (.inl x3)] [.inr (.inl z1.1), .inr (.inl y0)] z1.2
  refine s_run (b := [(.lcmp, 1)]) 655 [some (.inr (.inr 4000)), some (.inr (.inr x1)), some (.inr (.inr x2)), some (.inl x3)] [.inl (lg_cmp y0 z1.1)] (by decide +kernel) rfl ?_
  refine s_if_eq (tgt := 1845) (off := 1190) (by decide +kernel) (by decide) (fun h2 => ?_) (fun h2 => ?_)
  · skip
    refine s_run (b := [(.iinc 3 6, 3), (.goto (-1830), 3)]) 18 [some (.inr (.inr 4000)), some (.inr (.inr x1)), some (.inr (.inr x2)), some (.inl (x3 + (6 : Int32)))] [] (by decide +kernel) rfl ?_
    exact s_lsub (ls' := [some (.inr (.inr 4000)), some (.inr (.inr x1)), some (.inr (.inr x2)), some (.inl (x3 + (6 : Int32)))]) ⟨rfl, ⟨rfl, ⟨rfl, ⟨rfl, trivial⟩⟩⟩⟩ (kk1 (x3 + (6 : Int32)) z1.2)
  · skip
    exact s_none
def f_L_law_J624 (lim : Nat × Nat) (X : List Int32) (M : Mem) (x1 : Nat) (x2 : Nat) (x3 : Int32) (y0 : Nat) (y1 : Int32) (y2 : Int32) (y3 : Int32) : Option ((Int32 × Mem) ⊕ ((Mem))) :=
  (ob M 11 y0).bind fun _ => (f_X11_odds M y0 y1 y2 y3).bind fun z1 =>
  (scI X (x3 + (1 : Int32))).bind fun v2 =>
  (scI X (x3 + (2 : Int32))).bind fun v3 =>
  (scI X (x3 + (3 : Int32))).bind fun v4 =>
  (if v4 = 0 then
    f_L_law_J651 lim X z1.2 x1 x2 x3 z1.1 x2 v2 v3 (0 : Int32)
  else
    f_L_law_J651 lim X z1.2 x1 x2 x3 z1.1 x2 v2 v3 (1 : Int32))
set_option maxRecDepth 20000 in
theorem J_L_law_624 {l : Launch} {G : Gv} {lim : Nat × Nat} (M : Mem) (x1 : Nat) (x2 : Nat) (x3 : Int32) (y0 : Nat) (y1 : Int32) (y2 : Int32) (y3 : Int32) (K : (Int32 × Mem) ⊕ ((Mem)) → Option (Option Value × Mem)) (kk1 : ∀ (s3 : Int32) (s_ : Mem), SimR l G Y_L_law lim (K (.inl (s3, s_))) 18 [some (.inr (.inr 4000)), some (.inr (.inr x1)), some (.inr (.inr x2)), some (.inl s3)] [] s_) (kk2_0 : ∀ (s_ : Mem), SimR l G Y_L_law lim (K (.inr s_)) 1851 [none, none, none, none] [] s_) : Sim l G Y_L_law lim (f_L_law_J624 lim G.2.2.2.2 M x1 x2 x3 y0 y1 y2 y3) K 624 [some (.inr (.inr 4000)), some (.inr (.inr x1)), some (.inr (.inr x2)), some (.inl x3)] [.inl y3, .inl y2, .inl y1, .inr (.inr y0)] M := by
  unfold f_L_law_J624
  refine s_cV (Z := Y_X11_odds) (c := 11) (vs := [.inl y1, .inl y2, .inl y3]) (st := []) (rO := fun z => some (.inr (.inl z.1))) (mO := fun z => z.2) zk_X11_odds zi_X11_odds q866 rfl ⟨by decide, by decide⟩ ⟨rfl, rfl⟩ rfl rfl (Nat.le_of_ble_eq_true rfl) (by decide +kernel) (fun z hz => c_X11_odds hz) (fun z1 => ?_)
  change Sim l G Y_L_law lim _ _ 627 [some (.inr (.inr 4000)), some (.inr (.inr x1)), some (.inr (.inr x2)), some (.inl x3)] [.inr (.inl z1.1)] z1.2
  refine s_run (b := [(.aload_n 2, 1), (.aload_n 0, 1), (.iload_n 3, 1), (.iconst 1, 1), (.iadd, 1)]) 632 [some (.inr (.inr 4000)), some (.inr (.inr x1)), some (.inr (.inr x2)), some (.inl x3)] [.inl (x3 + (1 : Int32)), .inr (.inr 4000), .inr (.inr x2), .inr (.inl z1.1)] (by decide +kernel) rfl ?_
  refine s_sc (by decide +kernel) (fun v2 => ?_)
  refine s_run (b := [(.aload_n 0, 1), (.iload_n 3, 1), (.iconst 2, 1), (.iadd, 1)]) 637 [some (.inr (.inr 4000)), some (.inr (.inr x1)), some (.inr (.inr x2)), some (.inl x3)] [.inl (x3 + (2 : Int32)), .inr (.inr 4000), .inl v2, .inr (.inr x2), .inr (.inl z1.1)] (by decide +kernel) rfl ?_
  refine s_sc (by decide +kernel) (fun v3 => ?_)
  refine s_run (b := [(.aload_n 0, 1), (.iload_n 3, 1), (.iconst 3, 1), (.iadd, 1)]) 642 [some (.inr (.inr 4000)), some (.inr (.inr x1)), some (.inr (.inr x2)), some (.inl x3)] [.inl (x3 + (3 : Int32)), .inr (.inr 4000), .inl v3, .inl v2, .inr (.inr x2), .inr (.inl z1.1)] (by decide +kernel) rfl ?_
  refine s_sc (by decide +kernel) (fun v4 => ?_)
  refine s_if_eq (tgt := 650) (off := 7) (by decide +kernel) (by decide) (fun h5 => ?_) (fun h5 => ?_)
  · skip
    refine s_run (b := [(.iconst 0, 1)]) 651 [some (.inr (.inr 4000)), some (.inr (.inr x1)), some (.inr (.inr x2)), some (.inl x3)] [.inl (0 : Int32), .inl v3, .inl v2, .inr (.inr x2), .inr (.inl z1.1)] (by decide +kernel) rfl ?_
    exact s_lsub (ls' := [some (.inr (.inr 4000)), some (.inr (.inr x1)), some (.inr (.inr x2)), some (.inl x3)]) ⟨rfl, ⟨rfl, ⟨rfl, ⟨rfl, trivial⟩⟩⟩⟩ (J_L_law_651 z1.2 x1 x2 x3 z1.1 x2 v2 v3 (0 : Int32) K kk1 kk2_0)
  · skip
    refine s_run (b := [(.iconst 1, 1), (.goto 4, 3)]) 651 [some (.inr (.inr 4000)), some (.inr (.inr x1)), some (.inr (.inr x2)), some (.inl x3)] [.inl (1 : Int32), .inl v3, .inl v2, .inr (.inr x2), .inr (.inl z1.1)] (by decide +kernel) rfl ?_
    exact s_lsub (ls' := [some (.inr (.inr 4000)), some (.inr (.inr x1)), some (.inr (.inr x2)), some (.inl x3)]) ⟨rfl, ⟨rfl, ⟨rfl, ⟨rfl, trivial⟩⟩⟩⟩ (J_L_law_651 z1.2 x1 x2 x3 z1.1 x2 v2 v3 (1 : Int32) K kk1 kk2_0)
def f_L_law_J711 (lim : Nat × Nat) (X : List Int32) (M : Mem) (x1 : Nat) (x2 : Nat) (x3 : Int32) (y0 : Int64) (y1 : Nat) (y2 : Int32) (y3 : Int32) (y4 : Int32) : Option ((Int32 × Mem) ⊕ ((Mem))) :=
  (ob M 12 y1).bind fun _ => (f_X12_mean M y1 y2 y3 y4).bind fun z1 =>
  (if (lg_cmp y0 z1.1) = 0 then
    some (.inl ((x3 + (6 : Int32)), z1.2))
  else
    none)
set_option maxRecDepth 20000 in
theorem J_L_law_711 {l : Launch} {G : Gv} {lim : Nat × Nat} (M : Mem) (x1 : Nat) (x2 : Nat) (x3 : Int32) (y0 : Int64) (y1 : Nat) (y2 : Int32) (y3 : Int32) (y4 : Int32) (K : (Int32 × Mem) ⊕ ((Mem)) → Option (Option Value × Mem)) (kk1 : ∀ (s3 : Int32) (s_ : Mem), SimR l G Y_L_law lim (K (.inl (s3, s_))) 18 [some (.inr (.inr 4000)), some (.inr (.inr x1)), some (.inr (.inr x2)), some (.inl s3)] [] s_) (kk2_0 : ∀ (s_ : Mem), SimR l G Y_L_law lim (K (.inr s_)) 1851 [none, none, none, none] [] s_) : Sim l G Y_L_law lim (f_L_law_J711 lim G.2.2.2.2 M x1 x2 x3 y0 y1 y2 y3 y4) K 711 [some (.inr (.inr 4000)), some (.inr (.inr x1)), some (.inr (.inr x2)), some (.inl x3)] [.inl y4, .inl y3, .inl y2, .inr (.inr y1), .inr (.inl y0)] M := by
  unfold f_L_law_J711
  refine s_cV (Z := Y_X12_mean) (c := 12) (vs := [.inl y2, .inl y3, .inl y4]) (st := [.inr (.inl y0)]) (rO := fun z => some (.inr (.inl z.1))) (mO := fun z => z.2) zk_X12_mean zi_X12_mean q1679 rfl ⟨by decide, by decide⟩ ⟨rfl, rfl⟩ rfl rfl (Nat.le_of_ble_eq_true rfl) (by decide +kernel) (fun z hz => c_X12_mean hz) (fun z1 => ?_)
  change Sim l G Y_L_law lim _ _ 714 [some (.inr (.inr 4000)), some (.inr (.inr x1)), some (.inr (.inr x2)), some (.inl x3)] [.inr (.inl z1.1), .inr (.inl y0)] z1.2
  refine s_run (b := [(.lcmp, 1)]) 715 [some (.inr (.inr 4000)), some (.inr (.inr x1)), some (.inr (.inr x2)), some (.inl x3)] [.inl (lg_cmp y0 z1.1)] (by decide +kernel) rfl ?_
  refine s_if_eq (tgt := 1845) (off := 1130) (by decide +kernel) (by decide) (fun h2 => ?_) (fun h2 => ?_)
  · skip
    refine s_run (b := [(.iinc 3 6, 3), (.goto (-1830), 3)]) 18 [some (.inr (.inr 4000)), some (.inr (.inr x1)), some (.inr (.inr x2)), some (.inl (x3 + (6 : Int32)))] [] (by decide +kernel) rfl ?_
    exact s_lsub (ls' := [some (.inr (.inr 4000)), some (.inr (.inr x1)), some (.inr (.inr x2)), some (.inl (x3 + (6 : Int32)))]) ⟨rfl, ⟨rfl, ⟨rfl, ⟨rfl, trivial⟩⟩⟩⟩ (kk1 (x3 + (6 : Int32)) z1.2)
  · skip
    exact s_none
def f_L_law_J684 (lim : Nat × Nat) (X : List Int32) (M : Mem) (x1 : Nat) (x2 : Nat) (x3 : Int32) (y0 : Nat) (y1 : Int32) (y2 : Int32) (y3 : Int32) : Option ((Int32 × Mem) ⊕ ((Mem))) :=
  (ob M 11 y0).bind fun _ => (f_X11_mean M y0 y1 y2 y3).bind fun z1 =>
  (scI X (x3 + (1 : Int32))).bind fun v2 =>
  (scI X (x3 + (2 : Int32))).bind fun v3 =>
  (scI X (x3 + (3 : Int32))).bind fun v4 =>
  (if v4 = 0 then
    f_L_law_J711 lim X z1.2 x1 x2 x3 z1.1 x2 v2 v3 (0 : Int32)
  else
    f_L_law_J711 lim X z1.2 x1 x2 x3 z1.1 x2 v2 v3 (1 : Int32))
set_option maxRecDepth 20000 in
theorem J_L_law_684 {l : Launch} {G : Gv} {lim : Nat × Nat} (M : Mem) (x1 : Nat) (x2 : Nat) (x3 : Int32) (y0 : Nat) (y1 : Int32) (y2 : Int32) (y3 : Int32) (K : (Int32 × Mem) ⊕ ((Mem)) → Option (Option Value × Mem)) (kk1 : ∀ (s3 : Int32) (s_ : Mem), SimR l G Y_L_law lim (K (.inl (s3, s_))) 18 [some (.inr (.inr 4000)), some (.inr (.inr x1)), some (.inr (.inr x2)), some (.inl s3)] [] s_) (kk2_0 : ∀ (s_ : Mem), SimR l G Y_L_law lim (K (.inr s_)) 1851 [none, none, none, none] [] s_) : Sim l G Y_L_law lim (f_L_law_J684 lim G.2.2.2.2 M x1 x2 x3 y0 y1 y2 y3) K 684 [some (.inr (.inr 4000)), some (.inr (.inr x1)), some (.inr (.inr x2)), some (.inl x3)] [.inl y3, .inl y2, .inl y1, .inr (.inr y0)] M := by
  unfold f_L_law_J684
  refine s_cV (Z := Y_X11_mean) (c := 11) (vs := [.inl y1, .inl y2, .inl y3]) (st := []) (rO := fun z => some (.inr (.inl z.1))) (mO := fun z => z.2) zk_X11_mean zi_X11_mean q897 rfl ⟨by decide, by decide⟩ ⟨rfl, rfl⟩ rfl rfl (Nat.le_of_ble_eq_true rfl) (by decide +kernel) (fun z hz => c_X11_mean hz) (fun z1 => ?_)
  change Sim l G Y_L_law lim _ _ 687 [some (.inr (.inr 4000)), some (.inr (.inr x1)), some (.inr (.inr x2)), some (.inl x3)] [.inr (.inl z1.1)] z1.2
  refine s_run (b := [(.aload_n 2, 1), (.aload_n 0, 1), (.iload_n 3, 1), (.iconst 1, 1), (.iadd, 1)]) 692 [some (.inr (.inr 4000)), some (.inr (.inr x1)), some (.inr (.inr x2)), some (.inl x3)] [.inl (x3 + (1 : Int32)), .inr (.inr 4000), .inr (.inr x2), .inr (.inl z1.1)] (by decide +kernel) rfl ?_
  refine s_sc (by decide +kernel) (fun v2 => ?_)
  refine s_run (b := [(.aload_n 0, 1), (.iload_n 3, 1), (.iconst 2, 1), (.iadd, 1)]) 697 [some (.inr (.inr 4000)), some (.inr (.inr x1)), some (.inr (.inr x2)), some (.inl x3)] [.inl (x3 + (2 : Int32)), .inr (.inr 4000), .inl v2, .inr (.inr x2), .inr (.inl z1.1)] (by decide +kernel) rfl ?_
  refine s_sc (by decide +kernel) (fun v3 => ?_)
  refine s_run (b := [(.aload_n 0, 1), (.iload_n 3, 1), (.iconst 3, 1), (.iadd, 1)]) 702 [some (.inr (.inr 4000)), some (.inr (.inr x1)), some (.inr (.inr x2)), some (.inl x3)] [.inl (x3 + (3 : Int32)), .inr (.inr 4000), .inl v3, .inl v2, .inr (.inr x2), .inr (.inl z1.1)] (by decide +kernel) rfl ?_
  refine s_sc (by decide +kernel) (fun v4 => ?_)
  refine s_if_eq (tgt := 710) (off := 7) (by decide +kernel) (by decide) (fun h5 => ?_) (fun h5 => ?_)
  · skip
    refine s_run (b := [(.iconst 0, 1)]) 711 [some (.inr (.inr 4000)), some (.inr (.inr x1)), some (.inr (.inr x2)), some (.inl x3)] [.inl (0 : Int32), .inl v3, .inl v2, .inr (.inr x2), .inr (.inl z1.1)] (by decide +kernel) rfl ?_
    exact s_lsub (ls' := [some (.inr (.inr 4000)), some (.inr (.inr x1)), some (.inr (.inr x2)), some (.inl x3)]) ⟨rfl, ⟨rfl, ⟨rfl, ⟨rfl, trivial⟩⟩⟩⟩ (J_L_law_711 z1.2 x1 x2 x3 z1.1 x2 v2 v3 (0 : Int32) K kk1 kk2_0)
  · skip
    refine s_run (b := [(.iconst 1, 1), (.goto 4, 3)]) 711 [some (.inr (.inr 4000)), some (.inr (.inr x1)), some (.inr (.inr x2)), some (.inl x3)] [.inl (1 : Int32), .inl v3, .inl v2, .inr (.inr x2), .inr (.inl z1.1)] (by decide +kernel) rfl ?_
    exact s_lsub (ls' := [some (.inr (.inr 4000)), some (.inr (.inr x1)), some (.inr (.inr x2)), some (.inl x3)]) ⟨rfl, ⟨rfl, ⟨rfl, ⟨rfl, trivial⟩⟩⟩⟩ (J_L_law_711 z1.2 x1 x2 x3 z1.1 x2 v2 v3 (1 : Int32) K kk1 kk2_0)
def f_L_law_J997 (lim : Nat × Nat) (X : List Int32) (M : Mem) (x1 : Nat) (x2 : Nat) (x3 : Int32) (y0 : Int32) (y1 : Nat) (y2 : Int32) (y3 : Int32) (y4 : Int32) : Option ((Int32 × Mem) ⊕ ((Mem))) :=
  (ob M 12 y1).bind fun _ => (f_X12_lunch M y1 y2 y3 y4).bind fun z1 =>
  (if y0 = z1.1 then
    some (.inl ((x3 + (6 : Int32)), z1.2))
  else
    none)
set_option maxRecDepth 20000 in
theorem J_L_law_997 {l : Launch} {G : Gv} {lim : Nat × Nat} (M : Mem) (x1 : Nat) (x2 : Nat) (x3 : Int32) (y0 : Int32) (y1 : Nat) (y2 : Int32) (y3 : Int32) (y4 : Int32) (K : (Int32 × Mem) ⊕ ((Mem)) → Option (Option Value × Mem)) (kk1 : ∀ (s3 : Int32) (s_ : Mem), SimR l G Y_L_law lim (K (.inl (s3, s_))) 18 [some (.inr (.inr 4000)), some (.inr (.inr x1)), some (.inr (.inr x2)), some (.inl s3)] [] s_) (kk2_0 : ∀ (s_ : Mem), SimR l G Y_L_law lim (K (.inr s_)) 1851 [none, none, none, none] [] s_) : Sim l G Y_L_law lim (f_L_law_J997 lim G.2.2.2.2 M x1 x2 x3 y0 y1 y2 y3 y4) K 997 [some (.inr (.inr 4000)), some (.inr (.inr x1)), some (.inr (.inr x2)), some (.inl x3)] [.inl y4, .inl y3, .inl y2, .inr (.inr y1), .inl y0] M := by
  unfold f_L_law_J997
  refine s_cV (Z := Y_X12_lunch) (c := 12) (vs := [.inl y2, .inl y3, .inl y4]) (st := [.inl y0]) (rO := fun z => some (.inl z.1)) (mO := fun z => z.2) zk_X12_lunch zi_X12_lunch q1771 rfl ⟨by decide, by decide⟩ ⟨rfl, rfl⟩ rfl rfl (Nat.le_of_ble_eq_true rfl) (by decide +kernel) (fun z hz => c_X12_lunch hz) (fun z1 => ?_)
  change Sim l G Y_L_law lim _ _ 1000 [some (.inr (.inr 4000)), some (.inr (.inr x1)), some (.inr (.inr x2)), some (.inl x3)] [.inl z1.1, .inl y0] z1.2
  refine s_ic_eq (tgt := 1845) (off := 845) (by decide +kernel) (by decide) (fun h2 => ?_) (fun h2 => ?_)
  · skip
    refine s_run (b := [(.iinc 3 6, 3), (.goto (-1830), 3)]) 18 [some (.inr (.inr 4000)), some (.inr (.inr x1)), some (.inr (.inr x2)), some (.inl (x3 + (6 : Int32)))] [] (by decide +kernel) rfl ?_
    exact s_lsub (ls' := [some (.inr (.inr 4000)), some (.inr (.inr x1)), some (.inr (.inr x2)), some (.inl (x3 + (6 : Int32)))]) ⟨rfl, ⟨rfl, ⟨rfl, ⟨rfl, trivial⟩⟩⟩⟩ (kk1 (x3 + (6 : Int32)) z1.2)
  · skip
    exact s_none
def f_L_law_J970 (lim : Nat × Nat) (X : List Int32) (M : Mem) (x1 : Nat) (x2 : Nat) (x3 : Int32) (y0 : Nat) (y1 : Int32) (y2 : Int32) (y3 : Int32) : Option ((Int32 × Mem) ⊕ ((Mem))) :=
  (ob M 11 y0).bind fun _ => (f_X11_lunch M y0 y1 y2 y3).bind fun z1 =>
  (scI X (x3 + (1 : Int32))).bind fun v2 =>
  (scI X (x3 + (2 : Int32))).bind fun v3 =>
  (scI X (x3 + (3 : Int32))).bind fun v4 =>
  (if v4 = 0 then
    f_L_law_J997 lim X z1.2 x1 x2 x3 z1.1 x2 v2 v3 (0 : Int32)
  else
    f_L_law_J997 lim X z1.2 x1 x2 x3 z1.1 x2 v2 v3 (1 : Int32))
set_option maxRecDepth 20000 in
theorem J_L_law_970 {l : Launch} {G : Gv} {lim : Nat × Nat} (M : Mem) (x1 : Nat) (x2 : Nat) (x3 : Int32) (y0 : Nat) (y1 : Int32) (y2 : Int32) (y3 : Int32) (K : (Int32 × Mem) ⊕ ((Mem)) → Option (Option Value × Mem)) (kk1 : ∀ (s3 : Int32) (s_ : Mem), SimR l G Y_L_law lim (K (.inl (s3, s_))) 18 [some (.inr (.inr 4000)), some (.inr (.inr x1)), some (.inr (.inr x2)), some (.inl s3)] [] s_) (kk2_0 : ∀ (s_ : Mem), SimR l G Y_L_law lim (K (.inr s_)) 1851 [none, none, none, none] [] s_) : Sim l G Y_L_law lim (f_L_law_J970 lim G.2.2.2.2 M x1 x2 x3 y0 y1 y2 y3) K 970 [some (.inr (.inr 4000)), some (.inr (.inr x1)), some (.inr (.inr x2)), some (.inl x3)] [.inl y3, .inl y2, .inl y1, .inr (.inr y0)] M := by
  unfold f_L_law_J970
  refine s_cV (Z := Y_X11_lunch) (c := 11) (vs := [.inl y1, .inl y2, .inl y3]) (st := []) (rO := fun z => some (.inl z.1)) (mO := fun z => z.2) zk_X11_lunch zi_X11_lunch q1053 rfl ⟨by decide, by decide⟩ ⟨rfl, rfl⟩ rfl rfl (Nat.le_of_ble_eq_true rfl) (by decide +kernel) (fun z hz => c_X11_lunch hz) (fun z1 => ?_)
  change Sim l G Y_L_law lim _ _ 973 [some (.inr (.inr 4000)), some (.inr (.inr x1)), some (.inr (.inr x2)), some (.inl x3)] [.inl z1.1] z1.2
  refine s_run (b := [(.aload_n 2, 1), (.aload_n 0, 1), (.iload_n 3, 1), (.iconst 1, 1), (.iadd, 1)]) 978 [some (.inr (.inr 4000)), some (.inr (.inr x1)), some (.inr (.inr x2)), some (.inl x3)] [.inl (x3 + (1 : Int32)), .inr (.inr 4000), .inr (.inr x2), .inl z1.1] (by decide +kernel) rfl ?_
  refine s_sc (by decide +kernel) (fun v2 => ?_)
  refine s_run (b := [(.aload_n 0, 1), (.iload_n 3, 1), (.iconst 2, 1), (.iadd, 1)]) 983 [some (.inr (.inr 4000)), some (.inr (.inr x1)), some (.inr (.inr x2)), some (.inl x3)] [.inl (x3 + (2 : Int32)), .inr (.inr 4000), .inl v2, .inr (.inr x2), .inl z1.1] (by decide +kernel) rfl ?_
  refine s_sc (by decide +kernel) (fun v3 => ?_)
  refine s_run (b := [(.aload_n 0, 1), (.iload_n 3, 1), (.iconst 3, 1), (.iadd, 1)]) 988 [some (.inr (.inr 4000)), some (.inr (.inr x1)), some (.inr (.inr x2)), some (.inl x3)] [.inl (x3 + (3 : Int32)), .inr (.inr 4000), .inl v3, .inl v2, .inr (.inr x2), .inl z1.1] (by decide +kernel) rfl ?_
  refine s_sc (by decide +kernel) (fun v4 => ?_)
  refine s_if_eq (tgt := 996) (off := 7) (by decide +kernel) (by decide) (fun h5 => ?_) (fun h5 => ?_)
  · skip
    refine s_run (b := [(.iconst 0, 1)]) 997 [some (.inr (.inr 4000)), some (.inr (.inr x1)), some (.inr (.inr x2)), some (.inl x3)] [.inl (0 : Int32), .inl v3, .inl v2, .inr (.inr x2), .inl z1.1] (by decide +kernel) rfl ?_
    exact s_lsub (ls' := [some (.inr (.inr 4000)), some (.inr (.inr x1)), some (.inr (.inr x2)), some (.inl x3)]) ⟨rfl, ⟨rfl, ⟨rfl, ⟨rfl, trivial⟩⟩⟩⟩ (J_L_law_997 z1.2 x1 x2 x3 z1.1 x2 v2 v3 (0 : Int32) K kk1 kk2_0)
  · skip
    refine s_run (b := [(.iconst 1, 1), (.goto 4, 3)]) 997 [some (.inr (.inr 4000)), some (.inr (.inr x1)), some (.inr (.inr x2)), some (.inl x3)] [.inl (1 : Int32), .inl v3, .inl v2, .inr (.inr x2), .inl z1.1] (by decide +kernel) rfl ?_
    exact s_lsub (ls' := [some (.inr (.inr 4000)), some (.inr (.inr x1)), some (.inr (.inr x2)), some (.inl x3)]) ⟨rfl, ⟨rfl, ⟨rfl, ⟨rfl, trivial⟩⟩⟩⟩ (J_L_law_997 z1.2 x1 x2 x3 z1.1 x2 v2 v3 (1 : Int32) K kk1 kk2_0)
def f_L_law_J1089 (lim : Nat × Nat) (X : List Int32) (M : Mem) (x1 : Nat) (x2 : Nat) (x3 : Int32) (y0 : Int32) (y1 : Nat) (y2 : Int32) (y3 : Int32) : Option ((Int32 × Mem) ⊕ ((Mem))) :=
  (ob M 12 y1).bind fun _ => (f_X12_board M y1 y2 y3).bind fun z1 =>
  (if y0 = z1.1 then
    some (.inl ((x3 + (6 : Int32)), z1.2))
  else
    none)
set_option maxRecDepth 20000 in
theorem J_L_law_1089 {l : Launch} {G : Gv} {lim : Nat × Nat} (M : Mem) (x1 : Nat) (x2 : Nat) (x3 : Int32) (y0 : Int32) (y1 : Nat) (y2 : Int32) (y3 : Int32) (K : (Int32 × Mem) ⊕ ((Mem)) → Option (Option Value × Mem)) (kk1 : ∀ (s3 : Int32) (s_ : Mem), SimR l G Y_L_law lim (K (.inl (s3, s_))) 18 [some (.inr (.inr 4000)), some (.inr (.inr x1)), some (.inr (.inr x2)), some (.inl s3)] [] s_) (kk2_0 : ∀ (s_ : Mem), SimR l G Y_L_law lim (K (.inr s_)) 1851 [none, none, none, none] [] s_) : Sim l G Y_L_law lim (f_L_law_J1089 lim G.2.2.2.2 M x1 x2 x3 y0 y1 y2 y3) K 1089 [some (.inr (.inr 4000)), some (.inr (.inr x1)), some (.inr (.inr x2)), some (.inl x3)] [.inl y3, .inl y2, .inr (.inr y1), .inl y0] M := by
  unfold f_L_law_J1089
  refine s_cV (Z := Y_X12_board) (c := 12) (vs := [.inl y2, .inl y3]) (st := [.inl y0]) (rO := fun z => some (.inl z.1)) (mO := fun z => z.2) zk_X12_board zi_X12_board q1819 rfl ⟨by decide, by decide⟩ ⟨rfl, rfl⟩ rfl rfl (Nat.le_of_ble_eq_true rfl) (by decide +kernel) (fun z hz => c_X12_board hz) (fun z1 => ?_)
  change Sim l G Y_L_law lim _ _ 1092 [some (.inr (.inr 4000)), some (.inr (.inr x1)), some (.inr (.inr x2)), some (.inl x3)] [.inl z1.1, .inl y0] z1.2
  refine s_ic_eq (tgt := 1845) (off := 753) (by decide +kernel) (by decide) (fun h2 => ?_) (fun h2 => ?_)
  · skip
    refine s_run (b := [(.iinc 3 6, 3), (.goto (-1830), 3)]) 18 [some (.inr (.inr 4000)), some (.inr (.inr x1)), some (.inr (.inr x2)), some (.inl (x3 + (6 : Int32)))] [] (by decide +kernel) rfl ?_
    exact s_lsub (ls' := [some (.inr (.inr 4000)), some (.inr (.inr x1)), some (.inr (.inr x2)), some (.inl (x3 + (6 : Int32)))]) ⟨rfl, ⟨rfl, ⟨rfl, ⟨rfl, trivial⟩⟩⟩⟩ (kk1 (x3 + (6 : Int32)) z1.2)
  · skip
    exact s_none
def f_L_law_J1067 (lim : Nat × Nat) (X : List Int32) (M : Mem) (x1 : Nat) (x2 : Nat) (x3 : Int32) (y0 : Nat) (y1 : Int32) (y2 : Int32) : Option ((Int32 × Mem) ⊕ ((Mem))) :=
  (ob M 11 y0).bind fun _ => (f_X11_board M y0 y1 y2).bind fun v1 =>
  (scI X (x3 + (1 : Int32))).bind fun v2 =>
  (scI X (x3 + (2 : Int32))).bind fun v3 =>
  (if v3 = 0 then
    f_L_law_J1089 lim X M x1 x2 x3 v1 x2 v2 (0 : Int32)
  else
    f_L_law_J1089 lim X M x1 x2 x3 v1 x2 v2 (1 : Int32))
set_option maxRecDepth 20000 in
theorem J_L_law_1067 {l : Launch} {G : Gv} {lim : Nat × Nat} (M : Mem) (x1 : Nat) (x2 : Nat) (x3 : Int32) (y0 : Nat) (y1 : Int32) (y2 : Int32) (K : (Int32 × Mem) ⊕ ((Mem)) → Option (Option Value × Mem)) (kk1 : ∀ (s3 : Int32) (s_ : Mem), SimR l G Y_L_law lim (K (.inl (s3, s_))) 18 [some (.inr (.inr 4000)), some (.inr (.inr x1)), some (.inr (.inr x2)), some (.inl s3)] [] s_) (kk2_0 : ∀ (s_ : Mem), SimR l G Y_L_law lim (K (.inr s_)) 1851 [none, none, none, none] [] s_) : Sim l G Y_L_law lim (f_L_law_J1067 lim G.2.2.2.2 M x1 x2 x3 y0 y1 y2) K 1067 [some (.inr (.inr 4000)), some (.inr (.inr x1)), some (.inr (.inr x2)), some (.inl x3)] [.inl y2, .inl y1, .inr (.inr y0)] M := by
  unfold f_L_law_J1067
  refine s_cV (Z := Y_X11_board) (c := 11) (vs := [.inl y1, .inl y2]) (st := []) (rO := fun z => some (.inl z)) (mO := fun _ => M) zk_X11_board zi_X11_board q1094 rfl ⟨by decide, by decide⟩ ⟨rfl, rfl⟩ rfl rfl (Nat.le_of_ble_eq_true rfl) (by decide +kernel) (fun z hz => c_X11_board hz) (fun v1 => ?_)
  change Sim l G Y_L_law lim _ _ 1070 [some (.inr (.inr 4000)), some (.inr (.inr x1)), some (.inr (.inr x2)), some (.inl x3)] [.inl v1] M
  refine s_run (b := [(.aload_n 2, 1), (.aload_n 0, 1), (.iload_n 3, 1), (.iconst 1, 1), (.iadd, 1)]) 1075 [some (.inr (.inr 4000)), some (.inr (.inr x1)), some (.inr (.inr x2)), some (.inl x3)] [.inl (x3 + (1 : Int32)), .inr (.inr 4000), .inr (.inr x2), .inl v1] (by decide +kernel) rfl ?_
  refine s_sc (by decide +kernel) (fun v2 => ?_)
  refine s_run (b := [(.aload_n 0, 1), (.iload_n 3, 1), (.iconst 2, 1), (.iadd, 1)]) 1080 [some (.inr (.inr 4000)), some (.inr (.inr x1)), some (.inr (.inr x2)), some (.inl x3)] [.inl (x3 + (2 : Int32)), .inr (.inr 4000), .inl v2, .inr (.inr x2), .inl v1] (by decide +kernel) rfl ?_
  refine s_sc (by decide +kernel) (fun v3 => ?_)
  refine s_if_eq (tgt := 1088) (off := 7) (by decide +kernel) (by decide) (fun h4 => ?_) (fun h4 => ?_)
  · skip
    refine s_run (b := [(.iconst 0, 1)]) 1089 [some (.inr (.inr 4000)), some (.inr (.inr x1)), some (.inr (.inr x2)), some (.inl x3)] [.inl (0 : Int32), .inl v2, .inr (.inr x2), .inl v1] (by decide +kernel) rfl ?_
    exact s_lsub (ls' := [some (.inr (.inr 4000)), some (.inr (.inr x1)), some (.inr (.inr x2)), some (.inl x3)]) ⟨rfl, ⟨rfl, ⟨rfl, ⟨rfl, trivial⟩⟩⟩⟩ (J_L_law_1089 M x1 x2 x3 v1 x2 v2 (0 : Int32) K kk1 kk2_0)
  · skip
    refine s_run (b := [(.iconst 1, 1), (.goto 4, 3)]) 1089 [some (.inr (.inr 4000)), some (.inr (.inr x1)), some (.inr (.inr x2)), some (.inl x3)] [.inl (1 : Int32), .inl v2, .inr (.inr x2), .inl v1] (by decide +kernel) rfl ?_
    exact s_lsub (ls' := [some (.inr (.inr 4000)), some (.inr (.inr x1)), some (.inr (.inr x2)), some (.inl x3)]) ⟨rfl, ⟨rfl, ⟨rfl, ⟨rfl, trivial⟩⟩⟩⟩ (J_L_law_1089 M x1 x2 x3 v1 x2 v2 (1 : Int32) K kk1 kk2_0)
def f_L_law_J1138 (lim : Nat × Nat) (X : List Int32) (M : Mem) (x1 : Nat) (x2 : Nat) (x3 : Int32) (y0 : Int32) (y1 : Nat) (y2 : Int32) (y3 : Int32) : Option ((Int32 × Mem) ⊕ ((Mem))) :=
  (ob M 12 y1).bind fun _ => (f_X12_rooms M y1 y2 y3).bind fun z1 =>
  (if y0 = z1.1 then
    some (.inl ((x3 + (6 : Int32)), z1.2))
  else
    none)
set_option maxRecDepth 20000 in
theorem J_L_law_1138 {l : Launch} {G : Gv} {lim : Nat × Nat} (M : Mem) (x1 : Nat) (x2 : Nat) (x3 : Int32) (y0 : Int32) (y1 : Nat) (y2 : Int32) (y3 : Int32) (K : (Int32 × Mem) ⊕ ((Mem)) → Option (Option Value × Mem)) (kk1 : ∀ (s3 : Int32) (s_ : Mem), SimR l G Y_L_law lim (K (.inl (s3, s_))) 18 [some (.inr (.inr 4000)), some (.inr (.inr x1)), some (.inr (.inr x2)), some (.inl s3)] [] s_) (kk2_0 : ∀ (s_ : Mem), SimR l G Y_L_law lim (K (.inr s_)) 1851 [none, none, none, none] [] s_) : Sim l G Y_L_law lim (f_L_law_J1138 lim G.2.2.2.2 M x1 x2 x3 y0 y1 y2 y3) K 1138 [some (.inr (.inr 4000)), some (.inr (.inr x1)), some (.inr (.inr x2)), some (.inl x3)] [.inl y3, .inl y2, .inr (.inr y1), .inl y0] M := by
  unfold f_L_law_J1138
  refine s_cV (Z := Y_X12_rooms) (c := 12) (vs := [.inl y2, .inl y3]) (st := [.inl y0]) (rO := fun z => some (.inl z.1)) (mO := fun z => z.2) zk_X12_rooms zi_X12_rooms q1830 rfl ⟨by decide, by decide⟩ ⟨rfl, rfl⟩ rfl rfl (Nat.le_of_ble_eq_true rfl) (by decide +kernel) (fun z hz => c_X12_rooms hz) (fun z1 => ?_)
  change Sim l G Y_L_law lim _ _ 1141 [some (.inr (.inr 4000)), some (.inr (.inr x1)), some (.inr (.inr x2)), some (.inl x3)] [.inl z1.1, .inl y0] z1.2
  refine s_ic_eq (tgt := 1845) (off := 704) (by decide +kernel) (by decide) (fun h2 => ?_) (fun h2 => ?_)
  · skip
    refine s_run (b := [(.iinc 3 6, 3), (.goto (-1830), 3)]) 18 [some (.inr (.inr 4000)), some (.inr (.inr x1)), some (.inr (.inr x2)), some (.inl (x3 + (6 : Int32)))] [] (by decide +kernel) rfl ?_
    exact s_lsub (ls' := [some (.inr (.inr 4000)), some (.inr (.inr x1)), some (.inr (.inr x2)), some (.inl (x3 + (6 : Int32)))]) ⟨rfl, ⟨rfl, ⟨rfl, ⟨rfl, trivial⟩⟩⟩⟩ (kk1 (x3 + (6 : Int32)) z1.2)
  · skip
    exact s_none
def f_L_law_J1116 (lim : Nat × Nat) (X : List Int32) (M : Mem) (x1 : Nat) (x2 : Nat) (x3 : Int32) (y0 : Nat) (y1 : Int32) (y2 : Int32) : Option ((Int32 × Mem) ⊕ ((Mem))) :=
  (ob M 11 y0).bind fun _ => (f_X11_rooms M y0 y1 y2).bind fun v1 =>
  (scI X (x3 + (1 : Int32))).bind fun v2 =>
  (scI X (x3 + (2 : Int32))).bind fun v3 =>
  (if v3 = 0 then
    f_L_law_J1138 lim X M x1 x2 x3 v1 x2 v2 (0 : Int32)
  else
    f_L_law_J1138 lim X M x1 x2 x3 v1 x2 v2 (1 : Int32))
set_option maxRecDepth 20000 in
theorem J_L_law_1116 {l : Launch} {G : Gv} {lim : Nat × Nat} (M : Mem) (x1 : Nat) (x2 : Nat) (x3 : Int32) (y0 : Nat) (y1 : Int32) (y2 : Int32) (K : (Int32 × Mem) ⊕ ((Mem)) → Option (Option Value × Mem)) (kk1 : ∀ (s3 : Int32) (s_ : Mem), SimR l G Y_L_law lim (K (.inl (s3, s_))) 18 [some (.inr (.inr 4000)), some (.inr (.inr x1)), some (.inr (.inr x2)), some (.inl s3)] [] s_) (kk2_0 : ∀ (s_ : Mem), SimR l G Y_L_law lim (K (.inr s_)) 1851 [none, none, none, none] [] s_) : Sim l G Y_L_law lim (f_L_law_J1116 lim G.2.2.2.2 M x1 x2 x3 y0 y1 y2) K 1116 [some (.inr (.inr 4000)), some (.inr (.inr x1)), some (.inr (.inr x2)), some (.inl x3)] [.inl y2, .inl y1, .inr (.inr y0)] M := by
  unfold f_L_law_J1116
  refine s_cV (Z := Y_X11_rooms) (c := 11) (vs := [.inl y1, .inl y2]) (st := []) (rO := fun z => some (.inl z)) (mO := fun _ => M) zk_X11_rooms zi_X11_rooms q1107 rfl ⟨by decide, by decide⟩ ⟨rfl, rfl⟩ rfl rfl (Nat.le_of_ble_eq_true rfl) (by decide +kernel) (fun z hz => c_X11_rooms hz) (fun v1 => ?_)
  change Sim l G Y_L_law lim _ _ 1119 [some (.inr (.inr 4000)), some (.inr (.inr x1)), some (.inr (.inr x2)), some (.inl x3)] [.inl v1] M
  refine s_run (b := [(.aload_n 2, 1), (.aload_n 0, 1), (.iload_n 3, 1), (.iconst 1, 1), (.iadd, 1)]) 1124 [some (.inr (.inr 4000)), some (.inr (.inr x1)), some (.inr (.inr x2)), some (.inl x3)] [.inl (x3 + (1 : Int32)), .inr (.inr 4000), .inr (.inr x2), .inl v1] (by decide +kernel) rfl ?_
  refine s_sc (by decide +kernel) (fun v2 => ?_)
  refine s_run (b := [(.aload_n 0, 1), (.iload_n 3, 1), (.iconst 2, 1), (.iadd, 1)]) 1129 [some (.inr (.inr 4000)), some (.inr (.inr x1)), some (.inr (.inr x2)), some (.inl x3)] [.inl (x3 + (2 : Int32)), .inr (.inr 4000), .inl v2, .inr (.inr x2), .inl v1] (by decide +kernel) rfl ?_
  refine s_sc (by decide +kernel) (fun v3 => ?_)
  refine s_if_eq (tgt := 1137) (off := 7) (by decide +kernel) (by decide) (fun h4 => ?_) (fun h4 => ?_)
  · skip
    refine s_run (b := [(.iconst 0, 1)]) 1138 [some (.inr (.inr 4000)), some (.inr (.inr x1)), some (.inr (.inr x2)), some (.inl x3)] [.inl (0 : Int32), .inl v2, .inr (.inr x2), .inl v1] (by decide +kernel) rfl ?_
    exact s_lsub (ls' := [some (.inr (.inr 4000)), some (.inr (.inr x1)), some (.inr (.inr x2)), some (.inl x3)]) ⟨rfl, ⟨rfl, ⟨rfl, ⟨rfl, trivial⟩⟩⟩⟩ (J_L_law_1138 M x1 x2 x3 v1 x2 v2 (0 : Int32) K kk1 kk2_0)
  · skip
    refine s_run (b := [(.iconst 1, 1), (.goto 4, 3)]) 1138 [some (.inr (.inr 4000)), some (.inr (.inr x1)), some (.inr (.inr x2)), some (.inl x3)] [.inl (1 : Int32), .inl v2, .inr (.inr x2), .inl v1] (by decide +kernel) rfl ?_
    exact s_lsub (ls' := [some (.inr (.inr 4000)), some (.inr (.inr x1)), some (.inr (.inr x2)), some (.inl x3)]) ⟨rfl, ⟨rfl, ⟨rfl, ⟨rfl, trivial⟩⟩⟩⟩ (J_L_law_1138 M x1 x2 x3 v1 x2 v2 (1 : Int32) K kk1 kk2_0)
def f_L_law_J1197 (lim : Nat × Nat) (X : List Int32) (M : Mem) (x1 : Nat) (x2 : Nat) (x3 : Int32) (y0 : Int32) (y1 : Nat) (y2 : Int32) (y3 : Int32) (y4 : Int32) : Option ((Int32 × Mem) ⊕ ((Mem))) :=
  (ob M 12 y1).bind fun _ => (f_X12_seat M y1 y2 y3 y4).bind fun z1 =>
  (if y0 = z1.1 then
    some (.inl ((x3 + (6 : Int32)), z1.2))
  else
    none)
set_option maxRecDepth 20000 in
theorem J_L_law_1197 {l : Launch} {G : Gv} {lim : Nat × Nat} (M : Mem) (x1 : Nat) (x2 : Nat) (x3 : Int32) (y0 : Int32) (y1 : Nat) (y2 : Int32) (y3 : Int32) (y4 : Int32) (K : (Int32 × Mem) ⊕ ((Mem)) → Option (Option Value × Mem)) (kk1 : ∀ (s3 : Int32) (s_ : Mem), SimR l G Y_L_law lim (K (.inl (s3, s_))) 18 [some (.inr (.inr 4000)), some (.inr (.inr x1)), some (.inr (.inr x2)), some (.inl s3)] [] s_) (kk2_0 : ∀ (s_ : Mem), SimR l G Y_L_law lim (K (.inr s_)) 1851 [none, none, none, none] [] s_) : Sim l G Y_L_law lim (f_L_law_J1197 lim G.2.2.2.2 M x1 x2 x3 y0 y1 y2 y3 y4) K 1197 [some (.inr (.inr 4000)), some (.inr (.inr x1)), some (.inr (.inr x2)), some (.inl x3)] [.inl y4, .inl y3, .inl y2, .inr (.inr y1), .inl y0] M := by
  unfold f_L_law_J1197
  refine s_cV (Z := Y_X12_seat) (c := 12) (vs := [.inl y2, .inl y3, .inl y4]) (st := [.inl y0]) (rO := fun z => some (.inl z.1)) (mO := fun z => z.2) zk_X12_seat zi_X12_seat q1838 rfl ⟨by decide, by decide⟩ ⟨rfl, rfl⟩ rfl rfl (Nat.le_of_ble_eq_true rfl) (by decide +kernel) (fun z hz => c_X12_seat hz) (fun z1 => ?_)
  change Sim l G Y_L_law lim _ _ 1200 [some (.inr (.inr 4000)), some (.inr (.inr x1)), some (.inr (.inr x2)), some (.inl x3)] [.inl z1.1, .inl y0] z1.2
  refine s_ic_eq (tgt := 1845) (off := 645) (by decide +kernel) (by decide) (fun h2 => ?_) (fun h2 => ?_)
  · skip
    refine s_run (b := [(.iinc 3 6, 3), (.goto (-1830), 3)]) 18 [some (.inr (.inr 4000)), some (.inr (.inr x1)), some (.inr (.inr x2)), some (.inl (x3 + (6 : Int32)))] [] (by decide +kernel) rfl ?_
    exact s_lsub (ls' := [some (.inr (.inr 4000)), some (.inr (.inr x1)), some (.inr (.inr x2)), some (.inl (x3 + (6 : Int32)))]) ⟨rfl, ⟨rfl, ⟨rfl, ⟨rfl, trivial⟩⟩⟩⟩ (kk1 (x3 + (6 : Int32)) z1.2)
  · skip
    exact s_none
def f_L_law_J1170 (lim : Nat × Nat) (X : List Int32) (M : Mem) (x1 : Nat) (x2 : Nat) (x3 : Int32) (y0 : Nat) (y1 : Int32) (y2 : Int32) (y3 : Int32) : Option ((Int32 × Mem) ⊕ ((Mem))) :=
  (ob M 11 y0).bind fun _ => (f_X11_seat M y0 y1 y2 y3).bind fun v1 =>
  (scI X (x3 + (1 : Int32))).bind fun v2 =>
  (scI X (x3 + (2 : Int32))).bind fun v3 =>
  (scI X (x3 + (3 : Int32))).bind fun v4 =>
  (if v4 = 0 then
    f_L_law_J1197 lim X M x1 x2 x3 v1 x2 v2 v3 (0 : Int32)
  else
    f_L_law_J1197 lim X M x1 x2 x3 v1 x2 v2 v3 (1 : Int32))
set_option maxRecDepth 20000 in
theorem J_L_law_1170 {l : Launch} {G : Gv} {lim : Nat × Nat} (M : Mem) (x1 : Nat) (x2 : Nat) (x3 : Int32) (y0 : Nat) (y1 : Int32) (y2 : Int32) (y3 : Int32) (K : (Int32 × Mem) ⊕ ((Mem)) → Option (Option Value × Mem)) (kk1 : ∀ (s3 : Int32) (s_ : Mem), SimR l G Y_L_law lim (K (.inl (s3, s_))) 18 [some (.inr (.inr 4000)), some (.inr (.inr x1)), some (.inr (.inr x2)), some (.inl s3)] [] s_) (kk2_0 : ∀ (s_ : Mem), SimR l G Y_L_law lim (K (.inr s_)) 1851 [none, none, none, none] [] s_) : Sim l G Y_L_law lim (f_L_law_J1170 lim G.2.2.2.2 M x1 x2 x3 y0 y1 y2 y3) K 1170 [some (.inr (.inr 4000)), some (.inr (.inr x1)), some (.inr (.inr x2)), some (.inl x3)] [.inl y3, .inl y2, .inl y1, .inr (.inr y0)] M := by
  unfold f_L_law_J1170
  refine s_cV (Z := Y_X11_seat) (c := 11) (vs := [.inl y1, .inl y2, .inl y3]) (st := []) (rO := fun z => some (.inl z)) (mO := fun _ => M) zk_X11_seat zi_X11_seat q1128 rfl ⟨by decide, by decide⟩ ⟨rfl, rfl⟩ rfl rfl (Nat.le_of_ble_eq_true rfl) (by decide +kernel) (fun z hz => c_X11_seat hz) (fun v1 => ?_)
  change Sim l G Y_L_law lim _ _ 1173 [some (.inr (.inr 4000)), some (.inr (.inr x1)), some (.inr (.inr x2)), some (.inl x3)] [.inl v1] M
  refine s_run (b := [(.aload_n 2, 1), (.aload_n 0, 1), (.iload_n 3, 1), (.iconst 1, 1), (.iadd, 1)]) 1178 [some (.inr (.inr 4000)), some (.inr (.inr x1)), some (.inr (.inr x2)), some (.inl x3)] [.inl (x3 + (1 : Int32)), .inr (.inr 4000), .inr (.inr x2), .inl v1] (by decide +kernel) rfl ?_
  refine s_sc (by decide +kernel) (fun v2 => ?_)
  refine s_run (b := [(.aload_n 0, 1), (.iload_n 3, 1), (.iconst 2, 1), (.iadd, 1)]) 1183 [some (.inr (.inr 4000)), some (.inr (.inr x1)), some (.inr (.inr x2)), some (.inl x3)] [.inl (x3 + (2 : Int32)), .inr (.inr 4000), .inl v2, .inr (.inr x2), .inl v1] (by decide +kernel) rfl ?_
  refine s_sc (by decide +kernel) (fun v3 => ?_)
  refine s_run (b := [(.aload_n 0, 1), (.iload_n 3, 1), (.iconst 3, 1), (.iadd, 1)]) 1188 [some (.inr (.inr 4000)), some (.inr (.inr x1)), some (.inr (.inr x2)), some (.inl x3)] [.inl (x3 + (3 : Int32)), .inr (.inr 4000), .inl v3, .inl v2, .inr (.inr x2), .inl v1] (by decide +kernel) rfl ?_
  refine s_sc (by decide +kernel) (fun v4 => ?_)
  refine s_if_eq (tgt := 1196) (off := 7) (by decide +kernel) (by decide) (fun h5 => ?_) (fun h5 => ?_)
  · skip
    refine s_run (b := [(.iconst 0, 1)]) 1197 [some (.inr (.inr 4000)), some (.inr (.inr x1)), some (.inr (.inr x2)), some (.inl x3)] [.inl (0 : Int32), .inl v3, .inl v2, .inr (.inr x2), .inl v1] (by decide +kernel) rfl ?_
    exact s_lsub (ls' := [some (.inr (.inr 4000)), some (.inr (.inr x1)), some (.inr (.inr x2)), some (.inl x3)]) ⟨rfl, ⟨rfl, ⟨rfl, ⟨rfl, trivial⟩⟩⟩⟩ (J_L_law_1197 M x1 x2 x3 v1 x2 v2 v3 (0 : Int32) K kk1 kk2_0)
  · skip
    refine s_run (b := [(.iconst 1, 1), (.goto 4, 3)]) 1197 [some (.inr (.inr 4000)), some (.inr (.inr x1)), some (.inr (.inr x2)), some (.inl x3)] [.inl (1 : Int32), .inl v3, .inl v2, .inr (.inr x2), .inl v1] (by decide +kernel) rfl ?_
    exact s_lsub (ls' := [some (.inr (.inr 4000)), some (.inr (.inr x1)), some (.inr (.inr x2)), some (.inl x3)]) ⟨rfl, ⟨rfl, ⟨rfl, ⟨rfl, trivial⟩⟩⟩⟩ (J_L_law_1197 M x1 x2 x3 v1 x2 v2 v3 (1 : Int32) K kk1 kk2_0)
def f_L_law_J1464 (lim : Nat × Nat) (X : List Int32) (M : Mem) (x1 : Nat) (x2 : Nat) (x3 : Int32) (y0 : Int32) (y1 : Nat) (y2 : Int32) (y3 : Int32) (y4 : Int32) : Option ((Int32 × Mem) ⊕ ((Mem))) :=
  (ob M 12 y1).bind fun _ => (f_X12_blame M y1 y2 y3 y4).bind fun z1 =>
  (if y0 = z1.1 then
    some (.inl ((x3 + (6 : Int32)), z1.2))
  else
    none)
set_option maxRecDepth 20000 in
theorem J_L_law_1464 {l : Launch} {G : Gv} {lim : Nat × Nat} (M : Mem) (x1 : Nat) (x2 : Nat) (x3 : Int32) (y0 : Int32) (y1 : Nat) (y2 : Int32) (y3 : Int32) (y4 : Int32) (K : (Int32 × Mem) ⊕ ((Mem)) → Option (Option Value × Mem)) (kk1 : ∀ (s3 : Int32) (s_ : Mem), SimR l G Y_L_law lim (K (.inl (s3, s_))) 18 [some (.inr (.inr 4000)), some (.inr (.inr x1)), some (.inr (.inr x2)), some (.inl s3)] [] s_) (kk2_0 : ∀ (s_ : Mem), SimR l G Y_L_law lim (K (.inr s_)) 1851 [none, none, none, none] [] s_) : Sim l G Y_L_law lim (f_L_law_J1464 lim G.2.2.2.2 M x1 x2 x3 y0 y1 y2 y3 y4) K 1464 [some (.inr (.inr 4000)), some (.inr (.inr x1)), some (.inr (.inr x2)), some (.inl x3)] [.inl y4, .inl y3, .inl y2, .inr (.inr y1), .inl y0] M := by
  unfold f_L_law_J1464
  refine s_cV (Z := Y_X12_blame) (c := 12) (vs := [.inl y2, .inl y3, .inl y4]) (st := [.inl y0]) (rO := fun z => some (.inl z.1)) (mO := fun z => z.2) zk_X12_blame zi_X12_blame q1878 rfl ⟨by decide, by decide⟩ ⟨rfl, rfl⟩ rfl rfl (Nat.le_of_ble_eq_true rfl) (by decide +kernel) (fun z hz => c_X12_blame hz) (fun z1 => ?_)
  change Sim l G Y_L_law lim _ _ 1467 [some (.inr (.inr 4000)), some (.inr (.inr x1)), some (.inr (.inr x2)), some (.inl x3)] [.inl z1.1, .inl y0] z1.2
  refine s_ic_eq (tgt := 1845) (off := 378) (by decide +kernel) (by decide) (fun h2 => ?_) (fun h2 => ?_)
  · skip
    refine s_run (b := [(.iinc 3 6, 3), (.goto (-1830), 3)]) 18 [some (.inr (.inr 4000)), some (.inr (.inr x1)), some (.inr (.inr x2)), some (.inl (x3 + (6 : Int32)))] [] (by decide +kernel) rfl ?_
    exact s_lsub (ls' := [some (.inr (.inr 4000)), some (.inr (.inr x1)), some (.inr (.inr x2)), some (.inl (x3 + (6 : Int32)))]) ⟨rfl, ⟨rfl, ⟨rfl, ⟨rfl, trivial⟩⟩⟩⟩ (kk1 (x3 + (6 : Int32)) z1.2)
  · skip
    exact s_none
def f_L_law_J1437 (lim : Nat × Nat) (X : List Int32) (M : Mem) (x1 : Nat) (x2 : Nat) (x3 : Int32) (y0 : Nat) (y1 : Int32) (y2 : Int32) (y3 : Int32) : Option ((Int32 × Mem) ⊕ ((Mem))) :=
  (ob M 11 y0).bind fun _ => (f_X11_blame M y0 y1 y2 y3).bind fun z1 =>
  (scI X (x3 + (1 : Int32))).bind fun v2 =>
  (scI X (x3 + (2 : Int32))).bind fun v3 =>
  (scI X (x3 + (3 : Int32))).bind fun v4 =>
  (if v4 = 0 then
    f_L_law_J1464 lim X z1.2 x1 x2 x3 z1.1 x2 v2 v3 (0 : Int32)
  else
    f_L_law_J1464 lim X z1.2 x1 x2 x3 z1.1 x2 v2 v3 (1 : Int32))
set_option maxRecDepth 20000 in
theorem J_L_law_1437 {l : Launch} {G : Gv} {lim : Nat × Nat} (M : Mem) (x1 : Nat) (x2 : Nat) (x3 : Int32) (y0 : Nat) (y1 : Int32) (y2 : Int32) (y3 : Int32) (K : (Int32 × Mem) ⊕ ((Mem)) → Option (Option Value × Mem)) (kk1 : ∀ (s3 : Int32) (s_ : Mem), SimR l G Y_L_law lim (K (.inl (s3, s_))) 18 [some (.inr (.inr 4000)), some (.inr (.inr x1)), some (.inr (.inr x2)), some (.inl s3)] [] s_) (kk2_0 : ∀ (s_ : Mem), SimR l G Y_L_law lim (K (.inr s_)) 1851 [none, none, none, none] [] s_) : Sim l G Y_L_law lim (f_L_law_J1437 lim G.2.2.2.2 M x1 x2 x3 y0 y1 y2 y3) K 1437 [some (.inr (.inr 4000)), some (.inr (.inr x1)), some (.inr (.inr x2)), some (.inl x3)] [.inl y3, .inl y2, .inl y1, .inr (.inr y0)] M := by
  unfold f_L_law_J1437
  refine s_cV (Z := Y_X11_blame) (c := 11) (vs := [.inl y1, .inl y2, .inl y3]) (st := []) (rO := fun z => some (.inl z.1)) (mO := fun z => z.2) zk_X11_blame zi_X11_blame q1230 rfl ⟨by decide, by decide⟩ ⟨rfl, rfl⟩ rfl rfl (Nat.le_of_ble_eq_true rfl) (by decide +kernel) (fun z hz => c_X11_blame hz) (fun z1 => ?_)
  change Sim l G Y_L_law lim _ _ 1440 [some (.inr (.inr 4000)), some (.inr (.inr x1)), some (.inr (.inr x2)), some (.inl x3)] [.inl z1.1] z1.2
  refine s_run (b := [(.aload_n 2, 1), (.aload_n 0, 1), (.iload_n 3, 1), (.iconst 1, 1), (.iadd, 1)]) 1445 [some (.inr (.inr 4000)), some (.inr (.inr x1)), some (.inr (.inr x2)), some (.inl x3)] [.inl (x3 + (1 : Int32)), .inr (.inr 4000), .inr (.inr x2), .inl z1.1] (by decide +kernel) rfl ?_
  refine s_sc (by decide +kernel) (fun v2 => ?_)
  refine s_run (b := [(.aload_n 0, 1), (.iload_n 3, 1), (.iconst 2, 1), (.iadd, 1)]) 1450 [some (.inr (.inr 4000)), some (.inr (.inr x1)), some (.inr (.inr x2)), some (.inl x3)] [.inl (x3 + (2 : Int32)), .inr (.inr 4000), .inl v2, .inr (.inr x2), .inl z1.1] (by decide +kernel) rfl ?_
  refine s_sc (by decide +kernel) (fun v3 => ?_)
  refine s_run (b := [(.aload_n 0, 1), (.iload_n 3, 1), (.iconst 3, 1), (.iadd, 1)]) 1455 [some (.inr (.inr 4000)), some (.inr (.inr x1)), some (.inr (.inr x2)), some (.inl x3)] [.inl (x3 + (3 : Int32)), .inr (.inr 4000), .inl v3, .inl v2, .inr (.inr x2), .inl z1.1] (by decide +kernel) rfl ?_
  refine s_sc (by decide +kernel) (fun v4 => ?_)
  refine s_if_eq (tgt := 1463) (off := 7) (by decide +kernel) (by decide) (fun h5 => ?_) (fun h5 => ?_)
  · skip
    refine s_run (b := [(.iconst 0, 1)]) 1464 [some (.inr (.inr 4000)), some (.inr (.inr x1)), some (.inr (.inr x2)), some (.inl x3)] [.inl (0 : Int32), .inl v3, .inl v2, .inr (.inr x2), .inl z1.1] (by decide +kernel) rfl ?_
    exact s_lsub (ls' := [some (.inr (.inr 4000)), some (.inr (.inr x1)), some (.inr (.inr x2)), some (.inl x3)]) ⟨rfl, ⟨rfl, ⟨rfl, ⟨rfl, trivial⟩⟩⟩⟩ (J_L_law_1464 z1.2 x1 x2 x3 z1.1 x2 v2 v3 (0 : Int32) K kk1 kk2_0)
  · skip
    refine s_run (b := [(.iconst 1, 1), (.goto 4, 3)]) 1464 [some (.inr (.inr 4000)), some (.inr (.inr x1)), some (.inr (.inr x2)), some (.inl x3)] [.inl (1 : Int32), .inl v3, .inl v2, .inr (.inr x2), .inl z1.1] (by decide +kernel) rfl ?_
    exact s_lsub (ls' := [some (.inr (.inr 4000)), some (.inr (.inr x1)), some (.inr (.inr x2)), some (.inl x3)]) ⟨rfl, ⟨rfl, ⟨rfl, ⟨rfl, trivial⟩⟩⟩⟩ (J_L_law_1464 z1.2 x1 x2 x3 z1.1 x2 v2 v3 (1 : Int32) K kk1 kk2_0)
def f_L_law_J1642 (lim : Nat × Nat) (X : List Int32) (M : Mem) (x1 : Nat) (x2 : Nat) (x3 : Int32) (y0 : Int64) (y1 : Nat) (y2 : Int32) (y3 : Int32) (y4 : Int32) : Option ((Int32 × Mem) ⊕ ((Mem))) :=
  (ob M 12 y1).bind fun _ => (f_X12_empty M y1 y2 y3 y4).bind fun z1 =>
  (if (lg_cmp y0 z1.1) = 0 then
    some (.inl ((x3 + (6 : Int32)), z1.2))
  else
    none)
set_option maxRecDepth 20000 in
theorem J_L_law_1642 {l : Launch} {G : Gv} {lim : Nat × Nat} (M : Mem) (x1 : Nat) (x2 : Nat) (x3 : Int32) (y0 : Int64) (y1 : Nat) (y2 : Int32) (y3 : Int32) (y4 : Int32) (K : (Int32 × Mem) ⊕ ((Mem)) → Option (Option Value × Mem)) (kk1 : ∀ (s3 : Int32) (s_ : Mem), SimR l G Y_L_law lim (K (.inl (s3, s_))) 18 [some (.inr (.inr 4000)), some (.inr (.inr x1)), some (.inr (.inr x2)), some (.inl s3)] [] s_) (kk2_0 : ∀ (s_ : Mem), SimR l G Y_L_law lim (K (.inr s_)) 1851 [none, none, none, none] [] s_) : Sim l G Y_L_law lim (f_L_law_J1642 lim G.2.2.2.2 M x1 x2 x3 y0 y1 y2 y3 y4) K 1642 [some (.inr (.inr 4000)), some (.inr (.inr x1)), some (.inr (.inr x2)), some (.inl x3)] [.inl y4, .inl y3, .inl y2, .inr (.inr y1), .inr (.inl y0)] M := by
  unfold f_L_law_J1642
  refine s_cV (Z := Y_X12_empty) (c := 12) (vs := [.inl y2, .inl y3, .inl y4]) (st := [.inr (.inl y0)]) (rO := fun z => some (.inr (.inl z.1))) (mO := fun z => z.2) zk_X12_empty zi_X12_empty q1910 rfl ⟨by decide, by decide⟩ ⟨rfl, rfl⟩ rfl rfl (Nat.le_of_ble_eq_true rfl) (by decide +kernel) (fun z hz => c_X12_empty hz) (fun z1 => ?_)
  change Sim l G Y_L_law lim _ _ 1645 [some (.inr (.inr 4000)), some (.inr (.inr x1)), some (.inr (.inr x2)), some (.inl x3)] [.inr (.inl z1.1), .inr (.inl y0)] z1.2
  refine s_run (b := [(.lcmp, 1)]) 1646 [some (.inr (.inr 4000)), some (.inr (.inr x1)), some (.inr (.inr x2)), some (.inl x3)] [.inl (lg_cmp y0 z1.1)] (by decide +kernel) rfl ?_
  refine s_if_eq (tgt := 1845) (off := 199) (by decide +kernel) (by decide) (fun h2 => ?_) (fun h2 => ?_)
  · skip
    refine s_run (b := [(.iinc 3 6, 3), (.goto (-1830), 3)]) 18 [some (.inr (.inr 4000)), some (.inr (.inr x1)), some (.inr (.inr x2)), some (.inl (x3 + (6 : Int32)))] [] (by decide +kernel) rfl ?_
    exact s_lsub (ls' := [some (.inr (.inr 4000)), some (.inr (.inr x1)), some (.inr (.inr x2)), some (.inl (x3 + (6 : Int32)))]) ⟨rfl, ⟨rfl, ⟨rfl, ⟨rfl, trivial⟩⟩⟩⟩ (kk1 (x3 + (6 : Int32)) z1.2)
  · skip
    exact s_none
def f_L_law_J1615 (lim : Nat × Nat) (X : List Int32) (M : Mem) (x1 : Nat) (x2 : Nat) (x3 : Int32) (y0 : Nat) (y1 : Int32) (y2 : Int32) (y3 : Int32) : Option ((Int32 × Mem) ⊕ ((Mem))) :=
  (ob M 11 y0).bind fun _ => (f_X11_empty M y0 y1 y2 y3).bind fun z1 =>
  (scI X (x3 + (1 : Int32))).bind fun v2 =>
  (scI X (x3 + (2 : Int32))).bind fun v3 =>
  (scI X (x3 + (3 : Int32))).bind fun v4 =>
  (if v4 = 0 then
    f_L_law_J1642 lim X z1.2 x1 x2 x3 z1.1 x2 v2 v3 (0 : Int32)
  else
    f_L_law_J1642 lim X z1.2 x1 x2 x3 z1.1 x2 v2 v3 (1 : Int32))
set_option maxRecDepth 20000 in
theorem J_L_law_1615 {l : Launch} {G : Gv} {lim : Nat × Nat} (M : Mem) (x1 : Nat) (x2 : Nat) (x3 : Int32) (y0 : Nat) (y1 : Int32) (y2 : Int32) (y3 : Int32) (K : (Int32 × Mem) ⊕ ((Mem)) → Option (Option Value × Mem)) (kk1 : ∀ (s3 : Int32) (s_ : Mem), SimR l G Y_L_law lim (K (.inl (s3, s_))) 18 [some (.inr (.inr 4000)), some (.inr (.inr x1)), some (.inr (.inr x2)), some (.inl s3)] [] s_) (kk2_0 : ∀ (s_ : Mem), SimR l G Y_L_law lim (K (.inr s_)) 1851 [none, none, none, none] [] s_) : Sim l G Y_L_law lim (f_L_law_J1615 lim G.2.2.2.2 M x1 x2 x3 y0 y1 y2 y3) K 1615 [some (.inr (.inr 4000)), some (.inr (.inr x1)), some (.inr (.inr x2)), some (.inl x3)] [.inl y3, .inl y2, .inl y1, .inr (.inr y0)] M := by
  unfold f_L_law_J1615
  refine s_cV (Z := Y_X11_empty) (c := 11) (vs := [.inl y1, .inl y2, .inl y3]) (st := []) (rO := fun z => some (.inr (.inl z.1))) (mO := fun z => z.2) zk_X11_empty zi_X11_empty q1264 rfl ⟨by decide, by decide⟩ ⟨rfl, rfl⟩ rfl rfl (Nat.le_of_ble_eq_true rfl) (by decide +kernel) (fun z hz => c_X11_empty hz) (fun z1 => ?_)
  change Sim l G Y_L_law lim _ _ 1618 [some (.inr (.inr 4000)), some (.inr (.inr x1)), some (.inr (.inr x2)), some (.inl x3)] [.inr (.inl z1.1)] z1.2
  refine s_run (b := [(.aload_n 2, 1), (.aload_n 0, 1), (.iload_n 3, 1), (.iconst 1, 1), (.iadd, 1)]) 1623 [some (.inr (.inr 4000)), some (.inr (.inr x1)), some (.inr (.inr x2)), some (.inl x3)] [.inl (x3 + (1 : Int32)), .inr (.inr 4000), .inr (.inr x2), .inr (.inl z1.1)] (by decide +kernel) rfl ?_
  refine s_sc (by decide +kernel) (fun v2 => ?_)
  refine s_run (b := [(.aload_n 0, 1), (.iload_n 3, 1), (.iconst 2, 1), (.iadd, 1)]) 1628 [some (.inr (.inr 4000)), some (.inr (.inr x1)), some (.inr (.inr x2)), some (.inl x3)] [.inl (x3 + (2 : Int32)), .inr (.inr 4000), .inl v2, .inr (.inr x2), .inr (.inl z1.1)] (by decide +kernel) rfl ?_
  refine s_sc (by decide +kernel) (fun v3 => ?_)
  refine s_run (b := [(.aload_n 0, 1), (.iload_n 3, 1), (.iconst 3, 1), (.iadd, 1)]) 1633 [some (.inr (.inr 4000)), some (.inr (.inr x1)), some (.inr (.inr x2)), some (.inl x3)] [.inl (x3 + (3 : Int32)), .inr (.inr 4000), .inl v3, .inl v2, .inr (.inr x2), .inr (.inl z1.1)] (by decide +kernel) rfl ?_
  refine s_sc (by decide +kernel) (fun v4 => ?_)
  refine s_if_eq (tgt := 1641) (off := 7) (by decide +kernel) (by decide) (fun h5 => ?_) (fun h5 => ?_)
  · skip
    refine s_run (b := [(.iconst 0, 1)]) 1642 [some (.inr (.inr 4000)), some (.inr (.inr x1)), some (.inr (.inr x2)), some (.inl x3)] [.inl (0 : Int32), .inl v3, .inl v2, .inr (.inr x2), .inr (.inl z1.1)] (by decide +kernel) rfl ?_
    exact s_lsub (ls' := [some (.inr (.inr 4000)), some (.inr (.inr x1)), some (.inr (.inr x2)), some (.inl x3)]) ⟨rfl, ⟨rfl, ⟨rfl, ⟨rfl, trivial⟩⟩⟩⟩ (J_L_law_1642 z1.2 x1 x2 x3 z1.1 x2 v2 v3 (0 : Int32) K kk1 kk2_0)
  · skip
    refine s_run (b := [(.iconst 1, 1), (.goto 4, 3)]) 1642 [some (.inr (.inr 4000)), some (.inr (.inr x1)), some (.inr (.inr x2)), some (.inl x3)] [.inl (1 : Int32), .inl v3, .inl v2, .inr (.inr x2), .inr (.inl z1.1)] (by decide +kernel) rfl ?_
    exact s_lsub (ls' := [some (.inr (.inr 4000)), some (.inr (.inr x1)), some (.inr (.inr x2)), some (.inl x3)]) ⟨rfl, ⟨rfl, ⟨rfl, ⟨rfl, trivial⟩⟩⟩⟩ (J_L_law_1642 z1.2 x1 x2 x3 z1.1 x2 v2 v3 (1 : Int32) K kk1 kk2_0)
def f_L_law_J1768 (lim : Nat × Nat) (X : List Int32) (M : Mem) (x1 : Nat) (x2 : Nat) (x3 : Int32) (y0 : Int32) (y1 : Nat) (y2 : Int32) (y3 : Int32) : Option ((Int32 × Mem) ⊕ ((Mem))) :=
  (ob M 12 y1).bind fun _ => (f_X12_loud M y1 y2 y3).bind fun z1 =>
  (if y0 = z1.1 then
    some (.inl ((x3 + (6 : Int32)), z1.2))
  else
    none)
set_option maxRecDepth 20000 in
theorem J_L_law_1768 {l : Launch} {G : Gv} {lim : Nat × Nat} (M : Mem) (x1 : Nat) (x2 : Nat) (x3 : Int32) (y0 : Int32) (y1 : Nat) (y2 : Int32) (y3 : Int32) (K : (Int32 × Mem) ⊕ ((Mem)) → Option (Option Value × Mem)) (kk1 : ∀ (s3 : Int32) (s_ : Mem), SimR l G Y_L_law lim (K (.inl (s3, s_))) 18 [some (.inr (.inr 4000)), some (.inr (.inr x1)), some (.inr (.inr x2)), some (.inl s3)] [] s_) (kk2_0 : ∀ (s_ : Mem), SimR l G Y_L_law lim (K (.inr s_)) 1851 [none, none, none, none] [] s_) : Sim l G Y_L_law lim (f_L_law_J1768 lim G.2.2.2.2 M x1 x2 x3 y0 y1 y2 y3) K 1768 [some (.inr (.inr 4000)), some (.inr (.inr x1)), some (.inr (.inr x2)), some (.inl x3)] [.inl y3, .inl y2, .inr (.inr y1), .inl y0] M := by
  unfold f_L_law_J1768
  refine s_cV (Z := Y_X12_loud) (c := 12) (vs := [.inl y2, .inl y3]) (st := [.inl y0]) (rO := fun z => some (.inl z.1)) (mO := fun z => z.2) zk_X12_loud zi_X12_loud q1902 rfl ⟨by decide, by decide⟩ ⟨rfl, rfl⟩ rfl rfl (Nat.le_of_ble_eq_true rfl) (by decide +kernel) (fun z hz => c_X12_loud hz) (fun z1 => ?_)
  change Sim l G Y_L_law lim _ _ 1771 [some (.inr (.inr 4000)), some (.inr (.inr x1)), some (.inr (.inr x2)), some (.inl x3)] [.inl z1.1, .inl y0] z1.2
  refine s_ic_eq (tgt := 1845) (off := 74) (by decide +kernel) (by decide) (fun h2 => ?_) (fun h2 => ?_)
  · skip
    refine s_run (b := [(.iinc 3 6, 3), (.goto (-1830), 3)]) 18 [some (.inr (.inr 4000)), some (.inr (.inr x1)), some (.inr (.inr x2)), some (.inl (x3 + (6 : Int32)))] [] (by decide +kernel) rfl ?_
    exact s_lsub (ls' := [some (.inr (.inr 4000)), some (.inr (.inr x1)), some (.inr (.inr x2)), some (.inl (x3 + (6 : Int32)))]) ⟨rfl, ⟨rfl, ⟨rfl, ⟨rfl, trivial⟩⟩⟩⟩ (kk1 (x3 + (6 : Int32)) z1.2)
  · skip
    exact s_none
def f_L_law_J1746 (lim : Nat × Nat) (X : List Int32) (M : Mem) (x1 : Nat) (x2 : Nat) (x3 : Int32) (y0 : Nat) (y1 : Int32) (y2 : Int32) : Option ((Int32 × Mem) ⊕ ((Mem))) :=
  (ob M 11 y0).bind fun _ => (f_X11_loud M y0 y1 y2).bind fun v1 =>
  (scI X (x3 + (1 : Int32))).bind fun v2 =>
  (scI X (x3 + (2 : Int32))).bind fun v3 =>
  (if v3 = 0 then
    f_L_law_J1768 lim X M x1 x2 x3 v1 x2 v2 (0 : Int32)
  else
    f_L_law_J1768 lim X M x1 x2 x3 v1 x2 v2 (1 : Int32))
set_option maxRecDepth 20000 in
theorem J_L_law_1746 {l : Launch} {G : Gv} {lim : Nat × Nat} (M : Mem) (x1 : Nat) (x2 : Nat) (x3 : Int32) (y0 : Nat) (y1 : Int32) (y2 : Int32) (K : (Int32 × Mem) ⊕ ((Mem)) → Option (Option Value × Mem)) (kk1 : ∀ (s3 : Int32) (s_ : Mem), SimR l G Y_L_law lim (K (.inl (s3, s_))) 18 [some (.inr (.inr 4000)), some (.inr (.inr x1)), some (.inr (.inr x2)), some (.inl s3)] [] s_) (kk2_0 : ∀ (s_ : Mem), SimR l G Y_L_law lim (K (.inr s_)) 1851 [none, none, none, none] [] s_) : Sim l G Y_L_law lim (f_L_law_J1746 lim G.2.2.2.2 M x1 x2 x3 y0 y1 y2) K 1746 [some (.inr (.inr 4000)), some (.inr (.inr x1)), some (.inr (.inr x2)), some (.inl x3)] [.inl y2, .inl y1, .inr (.inr y0)] M := by
  unfold f_L_law_J1746
  refine s_cV (Z := Y_X11_loud) (c := 11) (vs := [.inl y1, .inl y2]) (st := []) (rO := fun z => some (.inl z)) (mO := fun _ => M) zk_X11_loud zi_X11_loud q1286 rfl ⟨by decide, by decide⟩ ⟨rfl, rfl⟩ rfl rfl (Nat.le_of_ble_eq_true rfl) (by decide +kernel) (fun z hz => c_X11_loud hz) (fun v1 => ?_)
  change Sim l G Y_L_law lim _ _ 1749 [some (.inr (.inr 4000)), some (.inr (.inr x1)), some (.inr (.inr x2)), some (.inl x3)] [.inl v1] M
  refine s_run (b := [(.aload_n 2, 1), (.aload_n 0, 1), (.iload_n 3, 1), (.iconst 1, 1), (.iadd, 1)]) 1754 [some (.inr (.inr 4000)), some (.inr (.inr x1)), some (.inr (.inr x2)), some (.inl x3)] [.inl (x3 + (1 : Int32)), .inr (.inr 4000), .inr (.inr x2), .inl v1] (by decide +kernel) rfl ?_
  refine s_sc (by decide +kernel) (fun v2 => ?_)
  refine s_run (b := [(.aload_n 0, 1), (.iload_n 3, 1), (.iconst 2, 1), (.iadd, 1)]) 1759 [some (.inr (.inr 4000)), some (.inr (.inr x1)), some (.inr (.inr x2)), some (.inl x3)] [.inl (x3 + (2 : Int32)), .inr (.inr 4000), .inl v2, .inr (.inr x2), .inl v1] (by decide +kernel) rfl ?_
  refine s_sc (by decide +kernel) (fun v3 => ?_)
  refine s_if_eq (tgt := 1767) (off := 7) (by decide +kernel) (by decide) (fun h4 => ?_) (fun h4 => ?_)
  · skip
    refine s_run (b := [(.iconst 0, 1)]) 1768 [some (.inr (.inr 4000)), some (.inr (.inr x1)), some (.inr (.inr x2)), some (.inl x3)] [.inl (0 : Int32), .inl v2, .inr (.inr x2), .inl v1] (by decide +kernel) rfl ?_
    exact s_lsub (ls' := [some (.inr (.inr 4000)), some (.inr (.inr x1)), some (.inr (.inr x2)), some (.inl x3)]) ⟨rfl, ⟨rfl, ⟨rfl, ⟨rfl, trivial⟩⟩⟩⟩ (J_L_law_1768 M x1 x2 x3 v1 x2 v2 (0 : Int32) K kk1 kk2_0)
  · skip
    refine s_run (b := [(.iconst 1, 1), (.goto 4, 3)]) 1768 [some (.inr (.inr 4000)), some (.inr (.inr x1)), some (.inr (.inr x2)), some (.inl x3)] [.inl (1 : Int32), .inl v2, .inr (.inr x2), .inl v1] (by decide +kernel) rfl ?_
    exact s_lsub (ls' := [some (.inr (.inr 4000)), some (.inr (.inr x1)), some (.inr (.inr x2)), some (.inl x3)]) ⟨rfl, ⟨rfl, ⟨rfl, ⟨rfl, trivial⟩⟩⟩⟩ (J_L_law_1768 M x1 x2 x3 v1 x2 v2 (1 : Int32) K kk1 kk2_0)
def f_L_law_B18 (lim : Nat × Nat) (X : List Int32) (M : Mem) (x1 : Nat) (x2 : Nat) (x3 : Int32) : Option ((Int32 × Mem) ⊕ ((Mem))) :=
  (if ((Int32.ofNat X.length) - (6 : Int32)) < x3 then
    some (.inr M)
  else
    (scI X x3).bind fun v2 =>
    (if (v2 &&& (63 : Int32)) = (0 : Int32) then
      (scI X (x3 + (1 : Int32))).bind fun v4 =>
      (scI X (x3 + (2 : Int32))).bind fun v5 =>
      (scI X (x3 + (3 : Int32))).bind fun v6 =>
      (scI X (x3 + (4 : Int32))).bind fun v7 =>
      (scI X (x3 + (5 : Int32))).bind fun v8 =>
      (ob M 11 x1).bind fun _ => (f_X11_feed M x1 v4 v5 v6 v7 v8).bind fun z9 =>
      (scI X (x3 + (1 : Int32))).bind fun v10 =>
      (scI X (x3 + (2 : Int32))).bind fun v11 =>
      (scI X (x3 + (3 : Int32))).bind fun v12 =>
      (scI X (x3 + (4 : Int32))).bind fun v13 =>
      (scI X (x3 + (5 : Int32))).bind fun v14 =>
      (ob z9.2 12 x2).bind fun _ => (f_X12_feed z9.2 x2 v10 v11 v12 v13 v14).bind fun z15 =>
      (if z9.1 = z15.1 then
        some (.inl ((x3 + (6 : Int32)), z15.2))
      else
        none)
    else
    (if (v2 &&& (63 : Int32)) = (1 : Int32) then
      (scI X (x3 + (1 : Int32))).bind fun v18 =>
      (ob M 11 x1).bind fun _ => (f_X11_end M x1 v18).bind fun z19 =>
      (scI X (x3 + (1 : Int32))).bind fun v20 =>
      (ob z19.2 12 x2).bind fun _ => (f_X12_end z19.2 x2 v20).bind fun z21 =>
      (if z19.1 = z21.1 then
        some (.inl ((x3 + (6 : Int32)), z21.2))
      else
        none)
    else
    (if (v2 &&& (63 : Int32)) = (2 : Int32) then
      (scI X (x3 + (1 : Int32))).bind fun v24 =>
      (scI X (x3 + (2 : Int32))).bind fun v25 =>
      (ob M 11 x1).bind fun _ => (f_X11_text M x1 v24 v25).bind fun z26 =>
      (scI X (x3 + (1 : Int32))).bind fun v27 =>
      (scI X (x3 + (2 : Int32))).bind fun v28 =>
      (ob z26.2 12 x2).bind fun _ => (f_X12_text z26.2 x2 v27 v28).bind fun z29 =>
      (if z26.1 = z29.1 then
        some (.inl ((x3 + (6 : Int32)), z29.2))
      else
        none)
    else
    (if (v2 &&& (63 : Int32)) = (3 : Int32) then
      (scI X (x3 + (1 : Int32))).bind fun v32 =>
      (ob M 11 x1).bind fun _ => (f_X11_fault M x1 v32).bind fun v33 =>
      (scI X (x3 + (1 : Int32))).bind fun v34 =>
      (ob M 12 x2).bind fun _ => (f_X12_fault M x2 v34).bind fun v35 =>
      (if v33 = v35 then
        some (.inl ((x3 + (6 : Int32)), M))
      else
        none)
    else
    (if (v2 &&& (63 : Int32)) = (4 : Int32) then
      (scI X (x3 + (1 : Int32))).bind fun v38 =>
      (scI X (x3 + (2 : Int32))).bind fun v39 =>
      (ob M 11 x1).bind fun _ => (f_X11_office M x1 v38 v39).bind fun v40 =>
      (scI X (x3 + (1 : Int32))).bind fun v41 =>
      (scI X (x3 + (2 : Int32))).bind fun v42 =>
      (ob M 12 x2).bind fun _ => (f_X12_office M x2 v41 v42).bind fun z43 =>
      (if v40 = z43.1 then
        some (.inl ((x3 + (6 : Int32)), z43.2))
      else
        none)
    else
    (if (v2 &&& (63 : Int32)) = (5 : Int32) then
      (scI X (x3 + (1 : Int32))).bind fun v46 =>
      (scI X (x3 + (2 : Int32))).bind fun v47 =>
      (scI X (x3 + (3 : Int32))).bind fun v48 =>
      (ob M 11 x1).bind fun _ => (f_X11_deed M x1 v46 v47 v48).bind fun v49 =>
      (scI X (x3 + (1 : Int32))).bind fun v50 =>
      (scI X (x3 + (2 : Int32))).bind fun v51 =>
      (scI X (x3 + (3 : Int32))).bind fun v52 =>
      (ob M 12 x2).bind fun _ => (f_X12_deed M x2 v50 v51 v52).bind fun z53 =>
      (if v49 = z53.1 then
        some (.inl ((x3 + (6 : Int32)), z53.2))
      else
        none)
    else
    (if (v2 &&& (63 : Int32)) = (6 : Int32) then
      (scI X (x3 + (1 : Int32))).bind fun v56 =>
      (scI X (x3 + (2 : Int32))).bind fun v57 =>
      (ob M 11 x1).bind fun _ => (f_X11_stop M x1 v56 v57).bind fun z58 =>
      (scI X (x3 + (1 : Int32))).bind fun v59 =>
      (scI X (x3 + (2 : Int32))).bind fun v60 =>
      (ob z58.2 12 x2).bind fun _ => (f_X12_stop z58.2 x2 v59 v60).bind fun z61 =>
      (if z58.1 = z61.1 then
        some (.inl ((x3 + (6 : Int32)), z61.2))
      else
        none)
    else
    (if (v2 &&& (63 : Int32)) = (7 : Int32) then
      (scI X (x3 + (1 : Int32))).bind fun v64 =>
      (scI X (x3 + (2 : Int32))).bind fun v65 =>
      (scI X (x3 + (3 : Int32))).bind fun v66 =>
      (scI X (x3 + (4 : Int32))).bind fun v67 =>
      (ob M 11 x1).bind fun _ => (f_X11_state M x1 v64 v65 v66 v67).bind fun z68 =>
      (scI X (x3 + (1 : Int32))).bind fun v69 =>
      (scI X (x3 + (2 : Int32))).bind fun v70 =>
      (scI X (x3 + (3 : Int32))).bind fun v71 =>
      (scI X (x3 + (4 : Int32))).bind fun v72 =>
      (ob z68.2 12 x2).bind fun _ => (f_X12_state z68.2 x2 v69 v70 v71 v72).bind fun z73 =>
      (if z68.1 = z73.1 then
        some (.inl ((x3 + (6 : Int32)), z73.2))
      else
        none)
    else
    (if (v2 &&& (63 : Int32)) = (8 : Int32) then
      (scI X (x3 + (1 : Int32))).bind fun v76 =>
      (scI X (x3 + (2 : Int32))).bind fun v77 =>
      (scI X (x3 + (3 : Int32))).bind fun v78 =>
      (scI X (x3 + (4 : Int32))).bind fun v79 =>
      (if v79 = 0 then
        f_L_law_J537 lim X M x1 x2 x3 x1 v76 v77 v78 (0 : Int32)
      else
        f_L_law_J537 lim X M x1 x2 x3 x1 v76 v77 v78 (1 : Int32))
    else
    (if (v2 &&& (63 : Int32)) = (9 : Int32) then
      (scI X (x3 + (1 : Int32))).bind fun v82 =>
      (ob M 11 x1).bind fun _ => (f_X11_enough M x1 v82).bind fun z83 =>
      (scI X (x3 + (1 : Int32))).bind fun v84 =>
      (ob z83.2 12 x2).bind fun _ => (f_X12_enough z83.2 x2 v84).bind fun z85 =>
      (if z83.1 = z85.1 then
        some (.inl ((x3 + (6 : Int32)), z85.2))
      else
        none)
    else
    (if (v2 &&& (63 : Int32)) = (10 : Int32) then
      (scI X (x3 + (1 : Int32))).bind fun v88 =>
      (scI X (x3 + (2 : Int32))).bind fun v89 =>
      (scI X (x3 + (3 : Int32))).bind fun v90 =>
      (if v90 = 0 then
        f_L_law_J624 lim X M x1 x2 x3 x1 v88 v89 (0 : Int32)
      else
        f_L_law_J624 lim X M x1 x2 x3 x1 v88 v89 (1 : Int32))
    else
    (if (v2 &&& (63 : Int32)) = (11 : Int32) then
      (scI X (x3 + (1 : Int32))).bind fun v93 =>
      (scI X (x3 + (2 : Int32))).bind fun v94 =>
      (scI X (x3 + (3 : Int32))).bind fun v95 =>
      (if v95 = 0 then
        f_L_law_J684 lim X M x1 x2 x3 x1 v93 v94 (0 : Int32)
      else
        f_L_law_J684 lim X M x1 x2 x3 x1 v93 v94 (1 : Int32))
    else
    (if (v2 &&& (63 : Int32)) = (12 : Int32) then
      (scI X (x3 + (1 : Int32))).bind fun v98 =>
      (scI X (x3 + (2 : Int32))).bind fun v99 =>
      (scI X (x3 + (3 : Int32))).bind fun v100 =>
      (scI X (x3 + (4 : Int32))).bind fun v101 =>
      (ob M 11 x1).bind fun _ => (f_X11_rest M x1 v98 v99 v100 v101).bind fun z102 =>
      (scI X (x3 + (1 : Int32))).bind fun v103 =>
      (scI X (x3 + (2 : Int32))).bind fun v104 =>
      (scI X (x3 + (3 : Int32))).bind fun v105 =>
      (scI X (x3 + (4 : Int32))).bind fun v106 =>
      (ob z102.2 12 x2).bind fun _ => (f_X12_rest z102.2 x2 v103 v104 v105 v106).bind fun z107 =>
      (if z102.1 = z107.1 then
        some (.inl ((x3 + (6 : Int32)), z107.2))
      else
        none)
    else
    (if (v2 &&& (63 : Int32)) = (13 : Int32) then
      (scI X (x3 + (1 : Int32))).bind fun v110 =>
      (scI X (x3 + (2 : Int32))).bind fun v111 =>
      (ob M 11 x1).bind fun _ => (f_X11_button M x1 v110 v111).bind fun z112 =>
      (scI X (x3 + (1 : Int32))).bind fun v113 =>
      (scI X (x3 + (2 : Int32))).bind fun v114 =>
      (ob z112.2 12 x2).bind fun _ => (f_X12_button z112.2 x2 v113 v114).bind fun z115 =>
      (if (lg_cmp z112.1 z115.1) = 0 then
        some (.inl ((x3 + (6 : Int32)), z115.2))
      else
        none)
    else
    (if (v2 &&& (63 : Int32)) = (14 : Int32) then
      (scI X (x3 + (1 : Int32))).bind fun v118 =>
      (scI X (x3 + (2 : Int32))).bind fun v119 =>
      (scI X (x3 + (3 : Int32))).bind fun v120 =>
      (ob M 11 x1).bind fun _ => (f_X11_fact M x1 v118 v119 v120).bind fun v121 =>
      (scI X (x3 + (1 : Int32))).bind fun v122 =>
      (scI X (x3 + (2 : Int32))).bind fun v123 =>
      (scI X (x3 + (3 : Int32))).bind fun v124 =>
      (ob M 12 x2).bind fun _ => (f_X12_fact M x2 v122 v123 v124).bind fun z125 =>
      (if v121 = z125.1 then
        some (.inl ((x3 + (6 : Int32)), z125.2))
      else
        none)
    else
    (if (v2 &&& (63 : Int32)) = (15 : Int32) then
      (scI X (x3 + (1 : Int32))).bind fun v128 =>
      (scI X (x3 + (2 : Int32))).bind fun v129 =>
      (scI X (x3 + (3 : Int32))).bind fun v130 =>
      (ob M 11 x1).bind fun _ => (f_X11_fits M x1 v128 v129 v130).bind fun z131 =>
      (scI X (x3 + (1 : Int32))).bind fun v132 =>
      (scI X (x3 + (2 : Int32))).bind fun v133 =>
      (scI X (x3 + (3 : Int32))).bind fun v134 =>
      (ob z131.2 12 x2).bind fun _ => (f_X12_fits z131.2 x2 v132 v133 v134).bind fun z135 =>
      (if z131.1 = z135.1 then
        some (.inl ((x3 + (6 : Int32)), z135.2))
      else
        none)
    else
    (if (v2 &&& (63 : Int32)) = (16 : Int32) then
      (scI X (x3 + (1 : Int32))).bind fun v138 =>
      (scI X (x3 + (2 : Int32))).bind fun v139 =>
      (scI X (x3 + (3 : Int32))).bind fun v140 =>
      (scI X (x3 + (4 : Int32))).bind fun v141 =>
      (ob M 11 x1).bind fun _ => (f_X11_drawn M x1 v138 v139 v140 v141).bind fun z142 =>
      (scI X (x3 + (1 : Int32))).bind fun v143 =>
      (scI X (x3 + (2 : Int32))).bind fun v144 =>
      (scI X (x3 + (3 : Int32))).bind fun v145 =>
      (scI X (x3 + (4 : Int32))).bind fun v146 =>
      (ob z142.2 12 x2).bind fun _ => (f_X12_drawn z142.2 x2 v143 v144 v145 v146).bind fun z147 =>
      (if z142.1 = z147.1 then
        some (.inl ((x3 + (6 : Int32)), z147.2))
      else
        none)
    else
    (if (v2 &&& (63 : Int32)) = (17 : Int32) then
      (scI X (x3 + (1 : Int32))).bind fun v150 =>
      (scI X (x3 + (2 : Int32))).bind fun v151 =>
      (scI X (x3 + (3 : Int32))).bind fun v152 =>
      (if v152 = 0 then
        f_L_law_J970 lim X M x1 x2 x3 x1 v150 v151 (0 : Int32)
      else
        f_L_law_J970 lim X M x1 x2 x3 x1 v150 v151 (1 : Int32))
    else
    (if (v2 &&& (63 : Int32)) = (18 : Int32) then
      (scI X (x3 + (1 : Int32))).bind fun v155 =>
      (scI X (x3 + (2 : Int32))).bind fun v156 =>
      (scI X (x3 + (3 : Int32))).bind fun v157 =>
      (ob M 11 x1).bind fun _ => (f_X11_rule M x1 v155 v156 v157).bind fun z158 =>
      (scI X (x3 + (1 : Int32))).bind fun v159 =>
      (scI X (x3 + (2 : Int32))).bind fun v160 =>
      (scI X (x3 + (3 : Int32))).bind fun v161 =>
      (ob z158.2 12 x2).bind fun _ => (f_X12_rule z158.2 x2 v159 v160 v161).bind fun z162 =>
      (if z158.1 = z162.1 then
        some (.inl ((x3 + (6 : Int32)), z162.2))
      else
        none)
    else
    (if (v2 &&& (63 : Int32)) = (19 : Int32) then
      (scI X (x3 + (1 : Int32))).bind fun v165 =>
      (scI X (x3 + (2 : Int32))).bind fun v166 =>
      (if v166 = 0 then
        f_L_law_J1067 lim X M x1 x2 x3 x1 v165 (0 : Int32)
      else
        f_L_law_J1067 lim X M x1 x2 x3 x1 v165 (1 : Int32))
    else
    (if (v2 &&& (63 : Int32)) = (20 : Int32) then
      (scI X (x3 + (1 : Int32))).bind fun v169 =>
      (scI X (x3 + (2 : Int32))).bind fun v170 =>
      (if v170 = 0 then
        f_L_law_J1116 lim X M x1 x2 x3 x1 v169 (0 : Int32)
      else
        f_L_law_J1116 lim X M x1 x2 x3 x1 v169 (1 : Int32))
    else
    (if (v2 &&& (63 : Int32)) = (21 : Int32) then
      (scI X (x3 + (1 : Int32))).bind fun v173 =>
      (scI X (x3 + (2 : Int32))).bind fun v174 =>
      (scI X (x3 + (3 : Int32))).bind fun v175 =>
      (if v175 = 0 then
        f_L_law_J1170 lim X M x1 x2 x3 x1 v173 v174 (0 : Int32)
      else
        f_L_law_J1170 lim X M x1 x2 x3 x1 v173 v174 (1 : Int32))
    else
    (if (v2 &&& (63 : Int32)) = (22 : Int32) then
      (scI X (x3 + (1 : Int32))).bind fun v178 =>
      (scI X (x3 + (2 : Int32))).bind fun v179 =>
      (ob M 11 x1).bind fun _ => (f_X11_quiet M x1 v178 v179).bind fun v180 =>
      (scI X (x3 + (1 : Int32))).bind fun v181 =>
      (scI X (x3 + (2 : Int32))).bind fun v182 =>
      (ob M 12 x2).bind fun _ => (f_X12_quiet M x2 v181 v182).bind fun z183 =>
      (if v180 = z183.1 then
        some (.inl ((x3 + (6 : Int32)), z183.2))
      else
        none)
    else
    (if (v2 &&& (63 : Int32)) = (23 : Int32) then
      (scI X (x3 + (1 : Int32))).bind fun v186 =>
      (scI X (x3 + (2 : Int32))).bind fun v187 =>
      (ob M 11 x1).bind fun _ => (f_X11_given M x1 v186 v187).bind fun z188 =>
      (scI X (x3 + (1 : Int32))).bind fun v189 =>
      (scI X (x3 + (2 : Int32))).bind fun v190 =>
      (ob z188.2 12 x2).bind fun _ => (f_X12_given z188.2 x2 v189 v190).bind fun z191 =>
      (if z188.1 = z191.1 then
        some (.inl ((x3 + (6 : Int32)), z191.2))
      else
        none)
    else
    (if (v2 &&& (63 : Int32)) = (24 : Int32) then
      (scI X (x3 + (1 : Int32))).bind fun v194 =>
      (scI X (x3 + (2 : Int32))).bind fun v195 =>
      (ob M 11 x1).bind fun _ => (f_X11_curve M x1 v194 v195).bind fun v196 =>
      (scI X (x3 + (1 : Int32))).bind fun v197 =>
      (scI X (x3 + (2 : Int32))).bind fun v198 =>
      (ob M 12 x2).bind fun _ => (f_X12_curve M x2 v197 v198).bind fun z199 =>
      (if v196 = z199.1 then
        some (.inl ((x3 + (6 : Int32)), z199.2))
      else
        none)
    else
    (if (v2 &&& (63 : Int32)) = (25 : Int32) then
      (scI X (x3 + (1 : Int32))).bind fun v202 =>
      (ob M 11 x1).bind fun _ => (f_X11_ears M x1 v202).bind fun v203 =>
      (scI X (x3 + (1 : Int32))).bind fun v204 =>
      (ob M 12 x2).bind fun _ => (f_X12_ears M x2 v204).bind fun z205 =>
      (if v203 = z205.1 then
        some (.inl ((x3 + (6 : Int32)), z205.2))
      else
        none)
    else
    (if (v2 &&& (63 : Int32)) = (26 : Int32) then
      (scI X (x3 + (1 : Int32))).bind fun v208 =>
      (scI X (x3 + (2 : Int32))).bind fun v209 =>
      (scI X (x3 + (3 : Int32))).bind fun v210 =>
      (ob M 11 x1).bind fun _ => (f_X11_order M x1 v208 v209 v210).bind fun z211 =>
      (scI X (x3 + (1 : Int32))).bind fun v212 =>
      (scI X (x3 + (2 : Int32))).bind fun v213 =>
      (scI X (x3 + (3 : Int32))).bind fun v214 =>
      (ob z211.2 12 x2).bind fun _ => (f_X12_order z211.2 x2 v212 v213 v214).bind fun z215 =>
      (if z211.1 = z215.1 then
        some (.inl ((x3 + (6 : Int32)), z215.2))
      else
        none)
    else
    (if (v2 &&& (63 : Int32)) = (27 : Int32) then
      (scI X (x3 + (1 : Int32))).bind fun v218 =>
      (scI X (x3 + (2 : Int32))).bind fun v219 =>
      (scI X (x3 + (3 : Int32))).bind fun v220 =>
      (ob M 11 x1).bind fun _ => (f_X11_after M x1 v218 v219 v220).bind fun z221 =>
      (scI X (x3 + (1 : Int32))).bind fun v222 =>
      (scI X (x3 + (2 : Int32))).bind fun v223 =>
      (scI X (x3 + (3 : Int32))).bind fun v224 =>
      (ob z221.2 12 x2).bind fun _ => (f_X12_after z221.2 x2 v222 v223 v224).bind fun z225 =>
      (if z221.1 = z225.1 then
        some (.inl ((x3 + (6 : Int32)), z225.2))
      else
        none)
    else
    (if (v2 &&& (63 : Int32)) = (28 : Int32) then
      (scI X (x3 + (1 : Int32))).bind fun v228 =>
      (scI X (x3 + (2 : Int32))).bind fun v229 =>
      (scI X (x3 + (3 : Int32))).bind fun v230 =>
      (if v230 = 0 then
        f_L_law_J1437 lim X M x1 x2 x3 x1 v228 v229 (0 : Int32)
      else
        f_L_law_J1437 lim X M x1 x2 x3 x1 v228 v229 (1 : Int32))
    else
    (if (v2 &&& (63 : Int32)) = (29 : Int32) then
      (scI X (x3 + (1 : Int32))).bind fun v233 =>
      (scI X (x3 + (2 : Int32))).bind fun v234 =>
      (scI X (x3 + (3 : Int32))).bind fun v235 =>
      (ob M 11 x1).bind fun _ => (f_X11_duty M x1 v233 v234 v235).bind fun z236 =>
      (scI X (x3 + (1 : Int32))).bind fun v237 =>
      (scI X (x3 + (2 : Int32))).bind fun v238 =>
      (scI X (x3 + (3 : Int32))).bind fun v239 =>
      (ob z236.2 12 x2).bind fun _ => (f_X12_duty z236.2 x2 v237 v238 v239).bind fun z240 =>
      (if z236.1 = z240.1 then
        some (.inl ((x3 + (6 : Int32)), z240.2))
      else
        none)
    else
    (if (v2 &&& (63 : Int32)) = (30 : Int32) then
      (scI X (x3 + (1 : Int32))).bind fun v243 =>
      (scI X (x3 + (2 : Int32))).bind fun v244 =>
      (scI X (x3 + (3 : Int32))).bind fun v245 =>
      (ob M 11 x1).bind fun _ => (f_X11_passed M x1 v243 v244 v245).bind fun v246 =>
      (scI X (x3 + (1 : Int32))).bind fun v247 =>
      (scI X (x3 + (2 : Int32))).bind fun v248 =>
      (scI X (x3 + (3 : Int32))).bind fun v249 =>
      (ob M 12 x2).bind fun _ => (f_X12_passed M x2 v247 v248 v249).bind fun z250 =>
      (if v246 = z250.1 then
        some (.inl ((x3 + (6 : Int32)), z250.2))
      else
        none)
    else
    (if (v2 &&& (63 : Int32)) = (31 : Int32) then
      (scI X (x3 + (1 : Int32))).bind fun v253 =>
      (scI X (x3 + (2 : Int32))).bind fun v254 =>
      (ob M 11 x1).bind fun _ => (f_X11_tied M x1 v253 v254).bind fun z255 =>
      (scI X (x3 + (1 : Int32))).bind fun v256 =>
      (scI X (x3 + (2 : Int32))).bind fun v257 =>
      (ob z255.2 12 x2).bind fun _ => (f_X12_tied z255.2 x2 v256 v257).bind fun z258 =>
      (if z255.1 = z258.1 then
        some (.inl ((x3 + (6 : Int32)), z258.2))
      else
        none)
    else
    (if (v2 &&& (63 : Int32)) = (32 : Int32) then
      (scI X (x3 + (1 : Int32))).bind fun v261 =>
      (scI X (x3 + (2 : Int32))).bind fun v262 =>
      (scI X (x3 + (3 : Int32))).bind fun v263 =>
      (if v263 = 0 then
        f_L_law_J1615 lim X M x1 x2 x3 x1 v261 v262 (0 : Int32)
      else
        f_L_law_J1615 lim X M x1 x2 x3 x1 v261 v262 (1 : Int32))
    else
    (if (v2 &&& (63 : Int32)) = (33 : Int32) then
      (scI X (x3 + (1 : Int32))).bind fun v266 =>
      (ob M 11 x1).bind fun _ => (f_X11_best M x1 v266).bind fun z267 =>
      (scI X (x3 + (1 : Int32))).bind fun v268 =>
      (ob z267.2 12 x2).bind fun _ => (f_X12_best z267.2 x2 v268).bind fun z269 =>
      (if z267.1 = z269.1 then
        some (.inl ((x3 + (6 : Int32)), z269.2))
      else
        none)
    else
    (if (v2 &&& (63 : Int32)) = (34 : Int32) then
      (scI X (x3 + (1 : Int32))).bind fun v272 =>
      (scI X (x3 + (2 : Int32))).bind fun v273 =>
      (scI X (x3 + (3 : Int32))).bind fun v274 =>
      (scI X (x3 + (4 : Int32))).bind fun v275 =>
      (ob M 11 x1).bind fun _ => (f_X11_fewer M x1 v272 v273 v274 v275).bind fun z276 =>
      (scI X (x3 + (1 : Int32))).bind fun v277 =>
      (scI X (x3 + (2 : Int32))).bind fun v278 =>
      (scI X (x3 + (3 : Int32))).bind fun v279 =>
      (scI X (x3 + (4 : Int32))).bind fun v280 =>
      (ob z276.2 12 x2).bind fun _ => (f_X12_fewer z276.2 x2 v277 v278 v279 v280).bind fun z281 =>
      (if z276.1 = z281.1 then
        some (.inl ((x3 + (6 : Int32)), z281.2))
      else
        none)
    else
    (if (v2 &&& (63 : Int32)) = (35 : Int32) then
      (scI X (x3 + (1 : Int32))).bind fun v284 =>
      (scI X (x3 + (2 : Int32))).bind fun v285 =>
      (if v285 = 0 then
        f_L_law_J1746 lim X M x1 x2 x3 x1 v284 (0 : Int32)
      else
        f_L_law_J1746 lim X M x1 x2 x3 x1 v284 (1 : Int32))
    else
    (if (v2 &&& (63 : Int32)) = (36 : Int32) then
      (scI X (x3 + (1 : Int32))).bind fun v288 =>
      (ob M 11 x1).bind fun _ => (f_X11_count M x1 v288).bind fun v289 =>
      (scI X (x3 + (1 : Int32))).bind fun v290 =>
      (ob M 12 x2).bind fun _ => (f_X12_count M x2 v290).bind fun v291 =>
      (if v289 = v291 then
        some (.inl ((x3 + (6 : Int32)), M))
      else
        none)
    else
    (if (v2 &&& (63 : Int32)) = (37 : Int32) then
      (scI X (x3 + (1 : Int32))).bind fun v294 =>
      (ob M 11 x1).bind fun _ => (f_X11_image M x1 v294).bind fun z295 =>
      (scI X (x3 + (1 : Int32))).bind fun v296 =>
      (ob z295.2 12 x2).bind fun _ => (f_X12_image z295.2 x2 v296).bind fun z297 =>
      (if z295.1 = z297.1 then
        some (.inl ((x3 + (6 : Int32)), z297.2))
      else
        none)
    else
    (if (v2 &&& (63 : Int32)) = (38 : Int32) then
      (scI X (x3 + (1 : Int32))).bind fun v300 =>
      (ob M 11 x1).bind fun _ => (f_X11_again M x1 v300).bind fun z301 =>
      (scI X (x3 + (1 : Int32))).bind fun v302 =>
      (ob z301.2 12 x2).bind fun _ => (f_X12_again z301.2 x2 v302).bind fun z303 =>
      (if z301.1 = z303.1 then
        some (.inl ((x3 + (6 : Int32)), z303.2))
      else
        none)
    else
    some (.inl ((x3 + (6 : Int32)), M))))))))))))))))))))))))))))))))))))))))))
def f_L_law_L18 (lim : Nat × Nat) (X : List Int32) (M : Mem) (x1 : Nat) (x2 : Nat) (x3 : Int32) : Option ((Mem)) := iter (fun s : Int32 × Mem => f_L_law_B18 lim X s.2 x1 x2 s.1) 1048576 (x3, M)
set_option maxRecDepth 20000 in
theorem B_L_law_18 {l : Launch} {G : Gv} {lim : Nat × Nat} (M : Mem) (x1 : Nat) (x2 : Nat) (x3 : Int32) (K : (Int32 × Mem) ⊕ ((Mem)) → Option (Option Value × Mem)) (kk1 : ∀ (s3 : Int32) (s_ : Mem), SimR l G Y_L_law lim (K (.inl (s3, s_))) 18 [some (.inr (.inr 4000)), some (.inr (.inr x1)), some (.inr (.inr x2)), some (.inl s3)] [] s_) (kk2_0 : ∀ (s_ : Mem), SimR l G Y_L_law lim (K (.inr s_)) 1851 [none, none, none, none] [] s_) : Sim l G Y_L_law lim (f_L_law_B18 lim G.2.2.2.2 M x1 x2 x3) K 18 [some (.inr (.inr 4000)), some (.inr (.inr x1)), some (.inr (.inr x2)), some (.inl x3)] [] M := by
  unfold f_L_law_B18
  refine s_run (b := [(.iload_n 3, 1), (.aload_n 0, 1)]) 20 [some (.inr (.inr 4000)), some (.inr (.inr x1)), some (.inr (.inr x2)), some (.inl x3)] [.inr (.inr 4000), .inl x3] (by decide +kernel) rfl ?_
  refine s_scl rfl (by decide +kernel) ?_
  change Sim l G Y_L_law lim _ _ 21 [some (.inr (.inr 4000)), some (.inr (.inr x1)), some (.inr (.inr x2)), some (.inl x3)] [.inl (Int32.ofNat G.2.2.2.2.length), .inl x3] M
  refine s_run (b := [(.bipush 6, 2), (.isub, 1)]) 24 [some (.inr (.inr 4000)), some (.inr (.inr x1)), some (.inr (.inr x2)), some (.inl x3)] [.inl ((Int32.ofNat G.2.2.2.2.length) - (6 : Int32)), .inl x3] (by decide +kernel) rfl ?_
  refine s_ic_gt (tgt := 1851) (off := 1827) (by decide +kernel) (by decide) (fun h1 => ?_) (fun h1 => ?_)
  · skip
    exact s_lsub (ls' := [none, none, none, none]) trivial (kk2_0 M)
  · skip
    refine s_run (b := [(.aload_n 0, 1), (.iload_n 3, 1)]) 29 [some (.inr (.inr 4000)), some (.inr (.inr x1)), some (.inr (.inr x2)), some (.inl x3)] [.inl x3, .inr (.inr 4000)] (by decide +kernel) rfl ?_
    refine s_sc (by decide +kernel) (fun v2 => ?_)
    refine s_run (b := [(.bipush 63, 2), (.iand, 1)]) 33 [some (.inr (.inr 4000)), some (.inr (.inr x1)), some (.inr (.inr x2)), some (.inl x3)] [.inl (v2 &&& (63 : Int32))] (by decide +kernel) rfl ?_
    refine s_ite (fun h3 => ?_) (fun h3 => ?_)
    · refine s_tabIn (off := 171) (tgt := 204) (dflt := 1812) (lo := 0) (hi := 38) (offs := #[171, 234, 257, 290, 313, 346, 389, 422, 475, 544, 567, 627, 687, 740, 774, 817, 860, 913, 972, 1015, 1064, 1113, 1172, 1205, 1238, 1271, 1294, 1337, 1380, 1439, 1482, 1525, 1558, 1618, 1641, 1694, 1743, 1766, 1789]) (len := 171) (0 : Int32) (by decide +kernel) h3 rfl rfl rfl (by decide) ?_
      change Sim l G Y_L_law lim _ _ 204 [some (.inr (.inr 4000)), some (.inr (.inr x1)), some (.inr (.inr x2)), some (.inl x3)] [] M
      refine s_run (b := [(.aload_n 1, 1), (.aload_n 0, 1), (.iload_n 3, 1), (.iconst 1, 1), (.iadd, 1)]) 209 [some (.inr (.inr 4000)), some (.inr (.inr x1)), some (.inr (.inr x2)), some (.inl x3)] [.inl (x3 + (1 : Int32)), .inr (.inr 4000), .inr (.inr x1)] (by decide +kernel) rfl ?_
      refine s_sc (by decide +kernel) (fun v4 => ?_)
      refine s_run (b := [(.aload_n 0, 1), (.iload_n 3, 1), (.iconst 2, 1), (.iadd, 1)]) 214 [some (.inr (.inr 4000)), some (.inr (.inr x1)), some (.inr (.inr x2)), some (.inl x3)] [.inl (x3 + (2 : Int32)), .inr (.inr 4000), .inl v4, .inr (.inr x1)] (by decide +kernel) rfl ?_
      refine s_sc (by decide +kernel) (fun v5 => ?_)
      refine s_run (b := [(.aload_n 0, 1), (.iload_n 3, 1), (.iconst 3, 1), (.iadd, 1)]) 219 [some (.inr (.inr 4000)), some (.inr (.inr x1)), some (.inr (.inr x2)), some (.inl x3)] [.inl (x3 + (3 : Int32)), .inr (.inr 4000), .inl v5, .inl v4, .inr (.inr x1)] (by decide +kernel) rfl ?_
      refine s_sc (by decide +kernel) (fun v6 => ?_)
      refine s_run (b := [(.aload_n 0, 1), (.iload_n 3, 1), (.iconst 4, 1), (.iadd, 1)]) 224 [some (.inr (.inr 4000)), some (.inr (.inr x1)), some (.inr (.inr x2)), some (.inl x3)] [.inl (x3 + (4 : Int32)), .inr (.inr 4000), .inl v6, .inl v5, .inl v4, .inr (.inr x1)] (by decide +kernel) rfl ?_
      refine s_sc (by decide +kernel) (fun v7 => ?_)
      refine s_run (b := [(.aload_n 0, 1), (.iload_n 3, 1), (.iconst 5, 1), (.iadd, 1)]) 229 [some (.inr (.inr 4000)), some (.inr (.inr x1)), some (.inr (.inr x2)), some (.inl x3)] [.inl (x3 + (5 : Int32)), .inr (.inr 4000), .inl v7, .inl v6, .inl v5, .inl v4, .inr (.inr x1)] (by decide +kernel) rfl ?_
      refine s_sc (by decide +kernel) (fun v8 => ?_)
      refine s_cV (Z := Y_X11_feed) (c := 11) (vs := [.inl v4, .inl v5, .inl v6, .inl v7, .inl v8]) (st := []) (rO := fun z => some (.inl z.1)) (mO := fun z => z.2) zk_X11_feed zi_X11_feed q491 rfl ⟨by decide, by decide⟩ ⟨rfl, rfl⟩ rfl rfl (Nat.le_of_ble_eq_true rfl) (by decide +kernel) (fun z hz => c_X11_feed hz) (fun z9 => ?_)
      change Sim l G Y_L_law lim _ _ 233 [some (.inr (.inr 4000)), some (.inr (.inr x1)), some (.inr (.inr x2)), some (.inl x3)] [.inl z9.1] z9.2
      refine s_run (b := [(.aload_n 2, 1), (.aload_n 0, 1), (.iload_n 3, 1), (.iconst 1, 1), (.iadd, 1)]) 238 [some (.inr (.inr 4000)), some (.inr (.inr x1)), some (.inr (.inr x2)), some (.inl x3)] [.inl (x3 + (1 : Int32)), .inr (.inr 4000), .inr (.inr x2), .inl z9.1] (by decide +kernel) rfl ?_
      refine s_sc (by decide +kernel) (fun v10 => ?_)
      refine s_run (b := [(.aload_n 0, 1), (.iload_n 3, 1), (.iconst 2, 1), (.iadd, 1)]) 243 [some (.inr (.inr 4000)), some (.inr (.inr x1)), some (.inr (.inr x2)), some (.inl x3)] [.inl (x3 + (2 : Int32)), .inr (.inr 4000), .inl v10, .inr (.inr x2), .inl z9.1] (by decide +kernel) rfl ?_
      refine s_sc (by decide +kernel) (fun v11 => ?_)
      refine s_run (b := [(.aload_n 0, 1), (.iload_n 3, 1), (.iconst 3, 1), (.iadd, 1)]) 248 [some (.inr (.inr 4000)), some (.inr (.inr x1)), some (.inr (.inr x2)), some (.inl x3)] [.inl (x3 + (3 : Int32)), .inr (.inr 4000), .inl v11, .inl v10, .inr (.inr x2), .inl z9.1] (by decide +kernel) rfl ?_
      refine s_sc (by decide +kernel) (fun v12 => ?_)
      refine s_run (b := [(.aload_n 0, 1), (.iload_n 3, 1), (.iconst 4, 1), (.iadd, 1)]) 253 [some (.inr (.inr 4000)), some (.inr (.inr x1)), some (.inr (.inr x2)), some (.inl x3)] [.inl (x3 + (4 : Int32)), .inr (.inr 4000), .inl v12, .inl v11, .inl v10, .inr (.inr x2), .inl z9.1] (by decide +kernel) rfl ?_
      refine s_sc (by decide +kernel) (fun v13 => ?_)
      refine s_run (b := [(.aload_n 0, 1), (.iload_n 3, 1), (.iconst 5, 1), (.iadd, 1)]) 258 [some (.inr (.inr 4000)), some (.inr (.inr x1)), some (.inr (.inr x2)), some (.inl x3)] [.inl (x3 + (5 : Int32)), .inr (.inr 4000), .inl v13, .inl v12, .inl v11, .inl v10, .inr (.inr x2), .inl z9.1] (by decide +kernel) rfl ?_
      refine s_sc (by decide +kernel) (fun v14 => ?_)
      refine s_cV (Z := Y_X12_feed) (c := 12) (vs := [.inl v10, .inl v11, .inl v12, .inl v13, .inl v14]) (st := [.inl z9.1]) (rO := fun z => some (.inl z.1)) (mO := fun z => z.2) zk_X12_feed zi_X12_feed q1451 rfl ⟨by decide, by decide⟩ ⟨rfl, rfl⟩ rfl rfl (Nat.le_of_ble_eq_true rfl) (by decide +kernel) (fun z hz => c_X12_feed hz) (fun z15 => ?_)
      change Sim l G Y_L_law lim _ _ 262 [some (.inr (.inr 4000)), some (.inr (.inr x1)), some (.inr (.inr x2)), some (.inl x3)] [.inl z15.1, .inl z9.1] z15.2
      refine s_ic_eq (tgt := 1845) (off := 1583) (by decide +kernel) (by decide) (fun h16 => ?_) (fun h16 => ?_)
      · skip
        refine s_run (b := [(.iinc 3 6, 3), (.goto (-1830), 3)]) 18 [some (.inr (.inr 4000)), some (.inr (.inr x1)), some (.inr (.inr x2)), some (.inl (x3 + (6 : Int32)))] [] (by decide +kernel) rfl ?_
        exact s_lsub (ls' := [some (.inr (.inr 4000)), some (.inr (.inr x1)), some (.inr (.inr x2)), some (.inl (x3 + (6 : Int32)))]) ⟨rfl, ⟨rfl, ⟨rfl, ⟨rfl, trivial⟩⟩⟩⟩ (kk1 (x3 + (6 : Int32)) z15.2)
      · skip
        exact s_none
    refine s_ite (fun h17 => ?_) (fun h17 => ?_)
    · refine s_tabIn (off := 234) (tgt := 267) (dflt := 1812) (lo := 0) (hi := 38) (offs := #[171, 234, 257, 290, 313, 346, 389, 422, 475, 544, 567, 627, 687, 740, 774, 817, 860, 913, 972, 1015, 1064, 1113, 1172, 1205, 1238, 1271, 1294, 1337, 1380, 1439, 1482, 1525, 1558, 1618, 1641, 1694, 1743, 1766, 1789]) (len := 171) (1 : Int32) (by decide +kernel) h17 rfl rfl rfl (by decide) ?_
      change Sim l G Y_L_law lim _ _ 267 [some (.inr (.inr 4000)), some (.inr (.inr x1)), some (.inr (.inr x2)), some (.inl x3)] [] M
      refine s_run (b := [(.aload_n 1, 1), (.aload_n 0, 1), (.iload_n 3, 1), (.iconst 1, 1), (.iadd, 1)]) 272 [some (.inr (.inr 4000)), some (.inr (.inr x1)), some (.inr (.inr x2)), some (.inl x3)] [.inl (x3 + (1 : Int32)), .inr (.inr 4000), .inr (.inr x1)] (by decide +kernel) rfl ?_
      refine s_sc (by decide +kernel) (fun v18 => ?_)
      refine s_cV (Z := Y_X11_end) (c := 11) (vs := [.inl v18]) (st := []) (rO := fun z => some (.inl z.1)) (mO := fun z => z.2) zk_X11_end zi_X11_end q499 rfl ⟨by decide, by decide⟩ ⟨rfl, rfl⟩ rfl rfl (Nat.le_of_ble_eq_true rfl) (by decide +kernel) (fun z hz => c_X11_end hz) (fun z19 => ?_)
      change Sim l G Y_L_law lim _ _ 276 [some (.inr (.inr 4000)), some (.inr (.inr x1)), some (.inr (.inr x2)), some (.inl x3)] [.inl z19.1] z19.2
      refine s_run (b := [(.aload_n 2, 1), (.aload_n 0, 1), (.iload_n 3, 1), (.iconst 1, 1), (.iadd, 1)]) 281 [some (.inr (.inr 4000)), some (.inr (.inr x1)), some (.inr (.inr x2)), some (.inl x3)] [.inl (x3 + (1 : Int32)), .inr (.inr 4000), .inr (.inr x2), .inl z19.1] (by decide +kernel) rfl ?_
      refine s_sc (by decide +kernel) (fun v20 => ?_)
      refine s_cV (Z := Y_X12_end) (c := 12) (vs := [.inl v20]) (st := [.inl z19.1]) (rO := fun z => some (.inl z.1)) (mO := fun z => z.2) zk_X12_end zi_X12_end q1455 rfl ⟨by decide, by decide⟩ ⟨rfl, rfl⟩ rfl rfl (Nat.le_of_ble_eq_true rfl) (by decide +kernel) (fun z hz => c_X12_end hz) (fun z21 => ?_)
      change Sim l G Y_L_law lim _ _ 285 [some (.inr (.inr 4000)), some (.inr (.inr x1)), some (.inr (.inr x2)), some (.inl x3)] [.inl z21.1, .inl z19.1] z21.2
      refine s_ic_eq (tgt := 1845) (off := 1560) (by decide +kernel) (by decide) (fun h22 => ?_) (fun h22 => ?_)
      · skip
        refine s_run (b := [(.iinc 3 6, 3), (.goto (-1830), 3)]) 18 [some (.inr (.inr 4000)), some (.inr (.inr x1)), some (.inr (.inr x2)), some (.inl (x3 + (6 : Int32)))] [] (by decide +kernel) rfl ?_
        exact s_lsub (ls' := [some (.inr (.inr 4000)), some (.inr (.inr x1)), some (.inr (.inr x2)), some (.inl (x3 + (6 : Int32)))]) ⟨rfl, ⟨rfl, ⟨rfl, ⟨rfl, trivial⟩⟩⟩⟩ (kk1 (x3 + (6 : Int32)) z21.2)
      · skip
        exact s_none
    refine s_ite (fun h23 => ?_) (fun h23 => ?_)
    · refine s_tabIn (off := 257) (tgt := 290) (dflt := 1812) (lo := 0) (hi := 38) (offs := #[171, 234, 257, 290, 313, 346, 389, 422, 475, 544, 567, 627, 687, 740, 774, 817, 860, 913, 972, 1015, 1064, 1113, 1172, 1205, 1238, 1271, 1294, 1337, 1380, 1439, 1482, 1525, 1558, 1618, 1641, 1694, 1743, 1766, 1789]) (len := 171) (2 : Int32) (by decide +kernel) h23 rfl rfl rfl (by decide) ?_
      change Sim l G Y_L_law lim _ _ 290 [some (.inr (.inr 4000)), some (.inr (.inr x1)), some (.inr (.inr x2)), some (.inl x3)] [] M
      refine s_run (b := [(.aload_n 1, 1), (.aload_n 0, 1), (.iload_n 3, 1), (.iconst 1, 1), (.iadd, 1)]) 295 [some (.inr (.inr 4000)), some (.inr (.inr x1)), some (.inr (.inr x2)), some (.inl x3)] [.inl (x3 + (1 : Int32)), .inr (.inr 4000), .inr (.inr x1)] (by decide +kernel) rfl ?_
      refine s_sc (by decide +kernel) (fun v24 => ?_)
      refine s_run (b := [(.aload_n 0, 1), (.iload_n 3, 1), (.iconst 2, 1), (.iadd, 1)]) 300 [some (.inr (.inr 4000)), some (.inr (.inr x1)), some (.inr (.inr x2)), some (.inl x3)] [.inl (x3 + (2 : Int32)), .inr (.inr 4000), .inl v24, .inr (.inr x1)] (by decide +kernel) rfl ?_
      refine s_sc (by decide +kernel) (fun v25 => ?_)
      refine s_cV (Z := Y_X11_text) (c := 11) (vs := [.inl v24, .inl v25]) (st := []) (rO := fun z => some (.inl z.1)) (mO := fun z => z.2) zk_X11_text zi_X11_text q503 rfl ⟨by decide, by decide⟩ ⟨rfl, rfl⟩ rfl rfl (Nat.le_of_ble_eq_true rfl) (by decide +kernel) (fun z hz => c_X11_text hz) (fun z26 => ?_)
      change Sim l G Y_L_law lim _ _ 304 [some (.inr (.inr 4000)), some (.inr (.inr x1)), some (.inr (.inr x2)), some (.inl x3)] [.inl z26.1] z26.2
      refine s_run (b := [(.aload_n 2, 1), (.aload_n 0, 1), (.iload_n 3, 1), (.iconst 1, 1), (.iadd, 1)]) 309 [some (.inr (.inr 4000)), some (.inr (.inr x1)), some (.inr (.inr x2)), some (.inl x3)] [.inl (x3 + (1 : Int32)), .inr (.inr 4000), .inr (.inr x2), .inl z26.1] (by decide +kernel) rfl ?_
      refine s_sc (by decide +kernel) (fun v27 => ?_)
      refine s_run (b := [(.aload_n 0, 1), (.iload_n 3, 1), (.iconst 2, 1), (.iadd, 1)]) 314 [some (.inr (.inr 4000)), some (.inr (.inr x1)), some (.inr (.inr x2)), some (.inl x3)] [.inl (x3 + (2 : Int32)), .inr (.inr 4000), .inl v27, .inr (.inr x2), .inl z26.1] (by decide +kernel) rfl ?_
      refine s_sc (by decide +kernel) (fun v28 => ?_)
      refine s_cV (Z := Y_X12_text) (c := 12) (vs := [.inl v27, .inl v28]) (st := [.inl z26.1]) (rO := fun z => some (.inl z.1)) (mO := fun z => z.2) zk_X12_text zi_X12_text q1459 rfl ⟨by decide, by decide⟩ ⟨rfl, rfl⟩ rfl rfl (Nat.le_of_ble_eq_true rfl) (by decide +kernel) (fun z hz => c_X12_text hz) (fun z29 => ?_)
      change Sim l G Y_L_law lim _ _ 318 [some (.inr (.inr 4000)), some (.inr (.inr x1)), some (.inr (.inr x2)), some (.inl x3)] [.inl z29.1, .inl z26.1] z29.2
      refine s_ic_eq (tgt := 1845) (off := 1527) (by decide +kernel) (by decide) (fun h30 => ?_) (fun h30 => ?_)
      · skip
        refine s_run (b := [(.iinc 3 6, 3), (.goto (-1830), 3)]) 18 [some (.inr (.inr 4000)), some (.inr (.inr x1)), some (.inr (.inr x2)), some (.inl (x3 + (6 : Int32)))] [] (by decide +kernel) rfl ?_
        exact s_lsub (ls' := [some (.inr (.inr 4000)), some (.inr (.inr x1)), some (.inr (.inr x2)), some (.inl (x3 + (6 : Int32)))]) ⟨rfl, ⟨rfl, ⟨rfl, ⟨rfl, trivial⟩⟩⟩⟩ (kk1 (x3 + (6 : Int32)) z29.2)
      · skip
        exact s_none
    refine s_ite (fun h31 => ?_) (fun h31 => ?_)
    · refine s_tabIn (off := 290) (tgt := 323) (dflt := 1812) (lo := 0) (hi := 38) (offs := #[171, 234, 257, 290, 313, 346, 389, 422, 475, 544, 567, 627, 687, 740, 774, 817, 860, 913, 972, 1015, 1064, 1113, 1172, 1205, 1238, 1271, 1294, 1337, 1380, 1439, 1482, 1525, 1558, 1618, 1641, 1694, 1743, 1766, 1789]) (len := 171) (3 : Int32) (by decide +kernel) h31 rfl rfl rfl (by decide) ?_
      change Sim l G Y_L_law lim _ _ 323 [some (.inr (.inr 4000)), some (.inr (.inr x1)), some (.inr (.inr x2)), some (.inl x3)] [] M
      refine s_run (b := [(.aload_n 1, 1), (.aload_n 0, 1), (.iload_n 3, 1), (.iconst 1, 1), (.iadd, 1)]) 328 [some (.inr (.inr 4000)), some (.inr (.inr x1)), some (.inr (.inr x2)), some (.inl x3)] [.inl (x3 + (1 : Int32)), .inr (.inr 4000), .inr (.inr x1)] (by decide +kernel) rfl ?_
      refine s_sc (by decide +kernel) (fun v32 => ?_)
      refine s_cV (Z := Y_X11_fault) (c := 11) (vs := [.inl v32]) (st := []) (rO := fun z => some (.inl z)) (mO := fun _ => M) zk_X11_fault zi_X11_fault q708 rfl ⟨by decide, by decide⟩ ⟨rfl, rfl⟩ rfl rfl (Nat.le_of_ble_eq_true rfl) (by decide +kernel) (fun z hz => c_X11_fault hz) (fun v33 => ?_)
      change Sim l G Y_L_law lim _ _ 332 [some (.inr (.inr 4000)), some (.inr (.inr x1)), some (.inr (.inr x2)), some (.inl x3)] [.inl v33] M
      refine s_run (b := [(.aload_n 2, 1), (.aload_n 0, 1), (.iload_n 3, 1), (.iconst 1, 1), (.iadd, 1)]) 337 [some (.inr (.inr 4000)), some (.inr (.inr x1)), some (.inr (.inr x2)), some (.inl x3)] [.inl (x3 + (1 : Int32)), .inr (.inr 4000), .inr (.inr x2), .inl v33] (by decide +kernel) rfl ?_
      refine s_sc (by decide +kernel) (fun v34 => ?_)
      refine s_cV (Z := Y_X12_fault) (c := 12) (vs := [.inl v34]) (st := [.inl v33]) (rO := fun z => some (.inl z)) (mO := fun _ => M) zk_X12_fault zi_X12_fault q1542 rfl ⟨by decide, by decide⟩ ⟨rfl, rfl⟩ rfl rfl (Nat.le_of_ble_eq_true rfl) (by decide +kernel) (fun z hz => c_X12_fault hz) (fun v35 => ?_)
      change Sim l G Y_L_law lim _ _ 341 [some (.inr (.inr 4000)), some (.inr (.inr x1)), some (.inr (.inr x2)), some (.inl x3)] [.inl v35, .inl v33] M
      refine s_ic_eq (tgt := 1845) (off := 1504) (by decide +kernel) (by decide) (fun h36 => ?_) (fun h36 => ?_)
      · skip
        refine s_run (b := [(.iinc 3 6, 3), (.goto (-1830), 3)]) 18 [some (.inr (.inr 4000)), some (.inr (.inr x1)), some (.inr (.inr x2)), some (.inl (x3 + (6 : Int32)))] [] (by decide +kernel) rfl ?_
        exact s_lsub (ls' := [some (.inr (.inr 4000)), some (.inr (.inr x1)), some (.inr (.inr x2)), some (.inl (x3 + (6 : Int32)))]) ⟨rfl, ⟨rfl, ⟨rfl, ⟨rfl, trivial⟩⟩⟩⟩ (kk1 (x3 + (6 : Int32)) M)
      · skip
        exact s_none
    refine s_ite (fun h37 => ?_) (fun h37 => ?_)
    · refine s_tabIn (off := 313) (tgt := 346) (dflt := 1812) (lo := 0) (hi := 38) (offs := #[171, 234, 257, 290, 313, 346, 389, 422, 475, 544, 567, 627, 687, 740, 774, 817, 860, 913, 972, 1015, 1064, 1113, 1172, 1205, 1238, 1271, 1294, 1337, 1380, 1439, 1482, 1525, 1558, 1618, 1641, 1694, 1743, 1766, 1789]) (len := 171) (4 : Int32) (by decide +kernel) h37 rfl rfl rfl (by decide) ?_
      change Sim l G Y_L_law lim _ _ 346 [some (.inr (.inr 4000)), some (.inr (.inr x1)), some (.inr (.inr x2)), some (.inl x3)] [] M
      refine s_run (b := [(.aload_n 1, 1), (.aload_n 0, 1), (.iload_n 3, 1), (.iconst 1, 1), (.iadd, 1)]) 351 [some (.inr (.inr 4000)), some (.inr (.inr x1)), some (.inr (.inr x2)), some (.inl x3)] [.inl (x3 + (1 : Int32)), .inr (.inr 4000), .inr (.inr x1)] (by decide +kernel) rfl ?_
      refine s_sc (by decide +kernel) (fun v38 => ?_)
      refine s_run (b := [(.aload_n 0, 1), (.iload_n 3, 1), (.iconst 2, 1), (.iadd, 1)]) 356 [some (.inr (.inr 4000)), some (.inr (.inr x1)), some (.inr (.inr x2)), some (.inl x3)] [.inl (x3 + (2 : Int32)), .inr (.inr 4000), .inl v38, .inr (.inr x1)] (by decide +kernel) rfl ?_
      refine s_sc (by decide +kernel) (fun v39 => ?_)
      refine s_cV (Z := Y_X11_office) (c := 11) (vs := [.inl v38, .inl v39]) (st := []) (rO := fun z => some (.inl z)) (mO := fun _ => M) zk_X11_office zi_X11_office q712 rfl ⟨by decide, by decide⟩ ⟨rfl, rfl⟩ rfl rfl (Nat.le_of_ble_eq_true rfl) (by decide +kernel) (fun z hz => c_X11_office hz) (fun v40 => ?_)
      change Sim l G Y_L_law lim _ _ 360 [some (.inr (.inr 4000)), some (.inr (.inr x1)), some (.inr (.inr x2)), some (.inl x3)] [.inl v40] M
      refine s_run (b := [(.aload_n 2, 1), (.aload_n 0, 1), (.iload_n 3, 1), (.iconst 1, 1), (.iadd, 1)]) 365 [some (.inr (.inr 4000)), some (.inr (.inr x1)), some (.inr (.inr x2)), some (.inl x3)] [.inl (x3 + (1 : Int32)), .inr (.inr 4000), .inr (.inr x2), .inl v40] (by decide +kernel) rfl ?_
      refine s_sc (by decide +kernel) (fun v41 => ?_)
      refine s_run (b := [(.aload_n 0, 1), (.iload_n 3, 1), (.iconst 2, 1), (.iadd, 1)]) 370 [some (.inr (.inr 4000)), some (.inr (.inr x1)), some (.inr (.inr x2)), some (.inl x3)] [.inl (x3 + (2 : Int32)), .inr (.inr 4000), .inl v41, .inr (.inr x2), .inl v40] (by decide +kernel) rfl ?_
      refine s_sc (by decide +kernel) (fun v42 => ?_)
      refine s_cV (Z := Y_X12_office) (c := 12) (vs := [.inl v41, .inl v42]) (st := [.inl v40]) (rO := fun z => some (.inl z.1)) (mO := fun z => z.2) zk_X12_office zi_X12_office q1546 rfl ⟨by decide, by decide⟩ ⟨rfl, rfl⟩ rfl rfl (Nat.le_of_ble_eq_true rfl) (by decide +kernel) (fun z hz => c_X12_office hz) (fun z43 => ?_)
      change Sim l G Y_L_law lim _ _ 374 [some (.inr (.inr 4000)), some (.inr (.inr x1)), some (.inr (.inr x2)), some (.inl x3)] [.inl z43.1, .inl v40] z43.2
      refine s_ic_eq (tgt := 1845) (off := 1471) (by decide +kernel) (by decide) (fun h44 => ?_) (fun h44 => ?_)
      · skip
        refine s_run (b := [(.iinc 3 6, 3), (.goto (-1830), 3)]) 18 [some (.inr (.inr 4000)), some (.inr (.inr x1)), some (.inr (.inr x2)), some (.inl (x3 + (6 : Int32)))] [] (by decide +kernel) rfl ?_
        exact s_lsub (ls' := [some (.inr (.inr 4000)), some (.inr (.inr x1)), some (.inr (.inr x2)), some (.inl (x3 + (6 : Int32)))]) ⟨rfl, ⟨rfl, ⟨rfl, ⟨rfl, trivial⟩⟩⟩⟩ (kk1 (x3 + (6 : Int32)) z43.2)
      · skip
        exact s_none
    refine s_ite (fun h45 => ?_) (fun h45 => ?_)
    · refine s_tabIn (off := 346) (tgt := 379) (dflt := 1812) (lo := 0) (hi := 38) (offs := #[171, 234, 257, 290, 313, 346, 389, 422, 475, 544, 567, 627, 687, 740, 774, 817, 860, 913, 972, 1015, 1064, 1113, 1172, 1205, 1238, 1271, 1294, 1337, 1380, 1439, 1482, 1525, 1558, 1618, 1641, 1694, 1743, 1766, 1789]) (len := 171) (5 : Int32) (by decide +kernel) h45 rfl rfl rfl (by decide) ?_
      change Sim l G Y_L_law lim _ _ 379 [some (.inr (.inr 4000)), some (.inr (.inr x1)), some (.inr (.inr x2)), some (.inl x3)] [] M
      refine s_run (b := [(.aload_n 1, 1), (.aload_n 0, 1), (.iload_n 3, 1), (.iconst 1, 1), (.iadd, 1)]) 384 [some (.inr (.inr 4000)), some (.inr (.inr x1)), some (.inr (.inr x2)), some (.inl x3)] [.inl (x3 + (1 : Int32)), .inr (.inr 4000), .inr (.inr x1)] (by decide +kernel) rfl ?_
      refine s_sc (by decide +kernel) (fun v46 => ?_)
      refine s_run (b := [(.aload_n 0, 1), (.iload_n 3, 1), (.iconst 2, 1), (.iadd, 1)]) 389 [some (.inr (.inr 4000)), some (.inr (.inr x1)), some (.inr (.inr x2)), some (.inl x3)] [.inl (x3 + (2 : Int32)), .inr (.inr 4000), .inl v46, .inr (.inr x1)] (by decide +kernel) rfl ?_
      refine s_sc (by decide +kernel) (fun v47 => ?_)
      refine s_run (b := [(.aload_n 0, 1), (.iload_n 3, 1), (.iconst 3, 1), (.iadd, 1)]) 394 [some (.inr (.inr 4000)), some (.inr (.inr x1)), some (.inr (.inr x2)), some (.inl x3)] [.inl (x3 + (3 : Int32)), .inr (.inr 4000), .inl v47, .inl v46, .inr (.inr x1)] (by decide +kernel) rfl ?_
      refine s_sc (by decide +kernel) (fun v48 => ?_)
      refine s_cV (Z := Y_X11_deed) (c := 11) (vs := [.inl v46, .inl v47, .inl v48]) (st := []) (rO := fun z => some (.inl z)) (mO := fun _ => M) zk_X11_deed zi_X11_deed q740 rfl ⟨by decide, by decide⟩ ⟨rfl, rfl⟩ rfl rfl (Nat.le_of_ble_eq_true rfl) (by decide +kernel) (fun z hz => c_X11_deed hz) (fun v49 => ?_)
      change Sim l G Y_L_law lim _ _ 398 [some (.inr (.inr 4000)), some (.inr (.inr x1)), some (.inr (.inr x2)), some (.inl x3)] [.inl v49] M
      refine s_run (b := [(.aload_n 2, 1), (.aload_n 0, 1), (.iload_n 3, 1), (.iconst 1, 1), (.iadd, 1)]) 403 [some (.inr (.inr 4000)), some (.inr (.inr x1)), some (.inr (.inr x2)), some (.inl x3)] [.inl (x3 + (1 : Int32)), .inr (.inr 4000), .inr (.inr x2), .inl v49] (by decide +kernel) rfl ?_
      refine s_sc (by decide +kernel) (fun v50 => ?_)
      refine s_run (b := [(.aload_n 0, 1), (.iload_n 3, 1), (.iconst 2, 1), (.iadd, 1)]) 408 [some (.inr (.inr 4000)), some (.inr (.inr x1)), some (.inr (.inr x2)), some (.inl x3)] [.inl (x3 + (2 : Int32)), .inr (.inr 4000), .inl v50, .inr (.inr x2), .inl v49] (by decide +kernel) rfl ?_
      refine s_sc (by decide +kernel) (fun v51 => ?_)
      refine s_run (b := [(.aload_n 0, 1), (.iload_n 3, 1), (.iconst 3, 1), (.iadd, 1)]) 413 [some (.inr (.inr 4000)), some (.inr (.inr x1)), some (.inr (.inr x2)), some (.inl x3)] [.inl (x3 + (3 : Int32)), .inr (.inr 4000), .inl v51, .inl v50, .inr (.inr x2), .inl v49] (by decide +kernel) rfl ?_
      refine s_sc (by decide +kernel) (fun v52 => ?_)
      refine s_cV (Z := Y_X12_deed) (c := 12) (vs := [.inl v50, .inl v51, .inl v52]) (st := [.inl v49]) (rO := fun z => some (.inl z.1)) (mO := fun z => z.2) zk_X12_deed zi_X12_deed q1570 rfl ⟨by decide, by decide⟩ ⟨rfl, rfl⟩ rfl rfl (Nat.le_of_ble_eq_true rfl) (by decide +kernel) (fun z hz => c_X12_deed hz) (fun z53 => ?_)
      change Sim l G Y_L_law lim _ _ 417 [some (.inr (.inr 4000)), some (.inr (.inr x1)), some (.inr (.inr x2)), some (.inl x3)] [.inl z53.1, .inl v49] z53.2
      refine s_ic_eq (tgt := 1845) (off := 1428) (by decide +kernel) (by decide) (fun h54 => ?_) (fun h54 => ?_)
      · skip
        refine s_run (b := [(.iinc 3 6, 3), (.goto (-1830), 3)]) 18 [some (.inr (.inr 4000)), some (.inr (.inr x1)), some (.inr (.inr x2)), some (.inl (x3 + (6 : Int32)))] [] (by decide +kernel) rfl ?_
        exact s_lsub (ls' := [some (.inr (.inr 4000)), some (.inr (.inr x1)), some (.inr (.inr x2)), some (.inl (x3 + (6 : Int32)))]) ⟨rfl, ⟨rfl, ⟨rfl, ⟨rfl, trivial⟩⟩⟩⟩ (kk1 (x3 + (6 : Int32)) z53.2)
      · skip
        exact s_none
    refine s_ite (fun h55 => ?_) (fun h55 => ?_)
    · refine s_tabIn (off := 389) (tgt := 422) (dflt := 1812) (lo := 0) (hi := 38) (offs := #[171, 234, 257, 290, 313, 346, 389, 422, 475, 544, 567, 627, 687, 740, 774, 817, 860, 913, 972, 1015, 1064, 1113, 1172, 1205, 1238, 1271, 1294, 1337, 1380, 1439, 1482, 1525, 1558, 1618, 1641, 1694, 1743, 1766, 1789]) (len := 171) (6 : Int32) (by decide +kernel) h55 rfl rfl rfl (by decide) ?_
      change Sim l G Y_L_law lim _ _ 422 [some (.inr (.inr 4000)), some (.inr (.inr x1)), some (.inr (.inr x2)), some (.inl x3)] [] M
      refine s_run (b := [(.aload_n 1, 1), (.aload_n 0, 1), (.iload_n 3, 1), (.iconst 1, 1), (.iadd, 1)]) 427 [some (.inr (.inr 4000)), some (.inr (.inr x1)), some (.inr (.inr x2)), some (.inl x3)] [.inl (x3 + (1 : Int32)), .inr (.inr 4000), .inr (.inr x1)] (by decide +kernel) rfl ?_
      refine s_sc (by decide +kernel) (fun v56 => ?_)
      refine s_run (b := [(.aload_n 0, 1), (.iload_n 3, 1), (.iconst 2, 1), (.iadd, 1)]) 432 [some (.inr (.inr 4000)), some (.inr (.inr x1)), some (.inr (.inr x2)), some (.inl x3)] [.inl (x3 + (2 : Int32)), .inr (.inr 4000), .inl v56, .inr (.inr x1)] (by decide +kernel) rfl ?_
      refine s_sc (by decide +kernel) (fun v57 => ?_)
      refine s_cV (Z := Y_X11_stop) (c := 11) (vs := [.inl v56, .inl v57]) (st := []) (rO := fun z => some (.inl z.1)) (mO := fun z => z.2) zk_X11_stop zi_X11_stop q752 rfl ⟨by decide, by decide⟩ ⟨rfl, rfl⟩ rfl rfl (Nat.le_of_ble_eq_true rfl) (by decide +kernel) (fun z hz => c_X11_stop hz) (fun z58 => ?_)
      change Sim l G Y_L_law lim _ _ 436 [some (.inr (.inr 4000)), some (.inr (.inr x1)), some (.inr (.inr x2)), some (.inl x3)] [.inl z58.1] z58.2
      refine s_run (b := [(.aload_n 2, 1), (.aload_n 0, 1), (.iload_n 3, 1), (.iconst 1, 1), (.iadd, 1)]) 441 [some (.inr (.inr 4000)), some (.inr (.inr x1)), some (.inr (.inr x2)), some (.inl x3)] [.inl (x3 + (1 : Int32)), .inr (.inr 4000), .inr (.inr x2), .inl z58.1] (by decide +kernel) rfl ?_
      refine s_sc (by decide +kernel) (fun v59 => ?_)
      refine s_run (b := [(.aload_n 0, 1), (.iload_n 3, 1), (.iconst 2, 1), (.iadd, 1)]) 446 [some (.inr (.inr 4000)), some (.inr (.inr x1)), some (.inr (.inr x2)), some (.inl x3)] [.inl (x3 + (2 : Int32)), .inr (.inr 4000), .inl v59, .inr (.inr x2), .inl z58.1] (by decide +kernel) rfl ?_
      refine s_sc (by decide +kernel) (fun v60 => ?_)
      refine s_cV (Z := Y_X12_stop) (c := 12) (vs := [.inl v59, .inl v60]) (st := [.inl z58.1]) (rO := fun z => some (.inl z.1)) (mO := fun z => z.2) zk_X12_stop zi_X12_stop q1578 rfl ⟨by decide, by decide⟩ ⟨rfl, rfl⟩ rfl rfl (Nat.le_of_ble_eq_true rfl) (by decide +kernel) (fun z hz => c_X12_stop hz) (fun z61 => ?_)
      change Sim l G Y_L_law lim _ _ 450 [some (.inr (.inr 4000)), some (.inr (.inr x1)), some (.inr (.inr x2)), some (.inl x3)] [.inl z61.1, .inl z58.1] z61.2
      refine s_ic_eq (tgt := 1845) (off := 1395) (by decide +kernel) (by decide) (fun h62 => ?_) (fun h62 => ?_)
      · skip
        refine s_run (b := [(.iinc 3 6, 3), (.goto (-1830), 3)]) 18 [some (.inr (.inr 4000)), some (.inr (.inr x1)), some (.inr (.inr x2)), some (.inl (x3 + (6 : Int32)))] [] (by decide +kernel) rfl ?_
        exact s_lsub (ls' := [some (.inr (.inr 4000)), some (.inr (.inr x1)), some (.inr (.inr x2)), some (.inl (x3 + (6 : Int32)))]) ⟨rfl, ⟨rfl, ⟨rfl, ⟨rfl, trivial⟩⟩⟩⟩ (kk1 (x3 + (6 : Int32)) z61.2)
      · skip
        exact s_none
    refine s_ite (fun h63 => ?_) (fun h63 => ?_)
    · refine s_tabIn (off := 422) (tgt := 455) (dflt := 1812) (lo := 0) (hi := 38) (offs := #[171, 234, 257, 290, 313, 346, 389, 422, 475, 544, 567, 627, 687, 740, 774, 817, 860, 913, 972, 1015, 1064, 1113, 1172, 1205, 1238, 1271, 1294, 1337, 1380, 1439, 1482, 1525, 1558, 1618, 1641, 1694, 1743, 1766, 1789]) (len := 171) (7 : Int32) (by decide +kernel) h63 rfl rfl rfl (by decide) ?_
      change Sim l G Y_L_law lim _ _ 455 [some (.inr (.inr 4000)), some (.inr (.inr x1)), some (.inr (.inr x2)), some (.inl x3)] [] M
      refine s_run (b := [(.aload_n 1, 1), (.aload_n 0, 1), (.iload_n 3, 1), (.iconst 1, 1), (.iadd, 1)]) 460 [some (.inr (.inr 4000)), some (.inr (.inr x1)), some (.inr (.inr x2)), some (.inl x3)] [.inl (x3 + (1 : Int32)), .inr (.inr 4000), .inr (.inr x1)] (by decide +kernel) rfl ?_
      refine s_sc (by decide +kernel) (fun v64 => ?_)
      refine s_run (b := [(.aload_n 0, 1), (.iload_n 3, 1), (.iconst 2, 1), (.iadd, 1)]) 465 [some (.inr (.inr 4000)), some (.inr (.inr x1)), some (.inr (.inr x2)), some (.inl x3)] [.inl (x3 + (2 : Int32)), .inr (.inr 4000), .inl v64, .inr (.inr x1)] (by decide +kernel) rfl ?_
      refine s_sc (by decide +kernel) (fun v65 => ?_)
      refine s_run (b := [(.aload_n 0, 1), (.iload_n 3, 1), (.iconst 3, 1), (.iadd, 1)]) 470 [some (.inr (.inr 4000)), some (.inr (.inr x1)), some (.inr (.inr x2)), some (.inl x3)] [.inl (x3 + (3 : Int32)), .inr (.inr 4000), .inl v65, .inl v64, .inr (.inr x1)] (by decide +kernel) rfl ?_
      refine s_sc (by decide +kernel) (fun v66 => ?_)
      refine s_run (b := [(.aload_n 0, 1), (.iload_n 3, 1), (.iconst 4, 1), (.iadd, 1)]) 475 [some (.inr (.inr 4000)), some (.inr (.inr x1)), some (.inr (.inr x2)), some (.inl x3)] [.inl (x3 + (4 : Int32)), .inr (.inr 4000), .inl v66, .inl v65, .inl v64, .inr (.inr x1)] (by decide +kernel) rfl ?_
      refine s_sc (by decide +kernel) (fun v67 => ?_)
      refine s_cV (Z := Y_X11_state) (c := 11) (vs := [.inl v64, .inl v65, .inl v66, .inl v67]) (st := []) (rO := fun z => some (.inl z.1)) (mO := fun z => z.2) zk_X11_state zi_X11_state q829 rfl ⟨by decide, by decide⟩ ⟨rfl, rfl⟩ rfl rfl (Nat.le_of_ble_eq_true rfl) (by decide +kernel) (fun z hz => c_X11_state hz) (fun z68 => ?_)
      change Sim l G Y_L_law lim _ _ 479 [some (.inr (.inr 4000)), some (.inr (.inr x1)), some (.inr (.inr x2)), some (.inl x3)] [.inl z68.1] z68.2
      refine s_run (b := [(.aload_n 2, 1), (.aload_n 0, 1), (.iload_n 3, 1), (.iconst 1, 1), (.iadd, 1)]) 484 [some (.inr (.inr 4000)), some (.inr (.inr x1)), some (.inr (.inr x2)), some (.inl x3)] [.inl (x3 + (1 : Int32)), .inr (.inr 4000), .inr (.inr x2), .inl z68.1] (by decide +kernel) rfl ?_
      refine s_sc (by decide +kernel) (fun v69 => ?_)
      refine s_run (b := [(.aload_n 0, 1), (.iload_n 3, 1), (.iconst 2, 1), (.iadd, 1)]) 489 [some (.inr (.inr 4000)), some (.inr (.inr x1)), some (.inr (.inr x2)), some (.inl x3)] [.inl (x3 + (2 : Int32)), .inr (.inr 4000), .inl v69, .inr (.inr x2), .inl z68.1] (by decide +kernel) rfl ?_
      refine s_sc (by decide +kernel) (fun v70 => ?_)
      refine s_run (b := [(.aload_n 0, 1), (.iload_n 3, 1), (.iconst 3, 1), (.iadd, 1)]) 494 [some (.inr (.inr 4000)), some (.inr (.inr x1)), some (.inr (.inr x2)), some (.inl x3)] [.inl (x3 + (3 : Int32)), .inr (.inr 4000), .inl v70, .inl v69, .inr (.inr x2), .inl z68.1] (by decide +kernel) rfl ?_
      refine s_sc (by decide +kernel) (fun v71 => ?_)
      refine s_run (b := [(.aload_n 0, 1), (.iload_n 3, 1), (.iconst 4, 1), (.iadd, 1)]) 499 [some (.inr (.inr 4000)), some (.inr (.inr x1)), some (.inr (.inr x2)), some (.inl x3)] [.inl (x3 + (4 : Int32)), .inr (.inr 4000), .inl v71, .inl v70, .inl v69, .inr (.inr x2), .inl z68.1] (by decide +kernel) rfl ?_
      refine s_sc (by decide +kernel) (fun v72 => ?_)
      refine s_cV (Z := Y_X12_state) (c := 12) (vs := [.inl v69, .inl v70, .inl v71, .inl v72]) (st := [.inl z68.1]) (rO := fun z => some (.inl z.1)) (mO := fun z => z.2) zk_X12_state zi_X12_state q1633 rfl ⟨by decide, by decide⟩ ⟨rfl, rfl⟩ rfl rfl (Nat.le_of_ble_eq_true rfl) (by decide +kernel) (fun z hz => c_X12_state hz) (fun z73 => ?_)
      change Sim l G Y_L_law lim _ _ 503 [some (.inr (.inr 4000)), some (.inr (.inr x1)), some (.inr (.inr x2)), some (.inl x3)] [.inl z73.1, .inl z68.1] z73.2
      refine s_ic_eq (tgt := 1845) (off := 1342) (by decide +kernel) (by decide) (fun h74 => ?_) (fun h74 => ?_)
      · skip
        refine s_run (b := [(.iinc 3 6, 3), (.goto (-1830), 3)]) 18 [some (.inr (.inr 4000)), some (.inr (.inr x1)), some (.inr (.inr x2)), some (.inl (x3 + (6 : Int32)))] [] (by decide +kernel) rfl ?_
        exact s_lsub (ls' := [some (.inr (.inr 4000)), some (.inr (.inr x1)), some (.inr (.inr x2)), some (.inl (x3 + (6 : Int32)))]) ⟨rfl, ⟨rfl, ⟨rfl, ⟨rfl, trivial⟩⟩⟩⟩ (kk1 (x3 + (6 : Int32)) z73.2)
      · skip
        exact s_none
    refine s_ite (fun h75 => ?_) (fun h75 => ?_)
    · refine s_tabIn (off := 475) (tgt := 508) (dflt := 1812) (lo := 0) (hi := 38) (offs := #[171, 234, 257, 290, 313, 346, 389, 422, 475, 544, 567, 627, 687, 740, 774, 817, 860, 913, 972, 1015, 1064, 1113, 1172, 1205, 1238, 1271, 1294, 1337, 1380, 1439, 1482, 1525, 1558, 1618, 1641, 1694, 1743, 1766, 1789]) (len := 171) (8 : Int32) (by decide +kernel) h75 rfl rfl rfl (by decide) ?_
      change Sim l G Y_L_law lim _ _ 508 [some (.inr (.inr 4000)), some (.inr (.inr x1)), some (.inr (.inr x2)), some (.inl x3)] [] M
      refine s_run (b := [(.aload_n 1, 1), (.aload_n 0, 1), (.iload_n 3, 1), (.iconst 1, 1), (.iadd, 1)]) 513 [some (.inr (.inr 4000)), some (.inr (.inr x1)), some (.inr (.inr x2)), some (.inl x3)] [.inl (x3 + (1 : Int32)), .inr (.inr 4000), .inr (.inr x1)] (by decide +kernel) rfl ?_
      refine s_sc (by decide +kernel) (fun v76 => ?_)
      refine s_run (b := [(.aload_n 0, 1), (.iload_n 3, 1), (.iconst 2, 1), (.iadd, 1)]) 518 [some (.inr (.inr 4000)), some (.inr (.inr x1)), some (.inr (.inr x2)), some (.inl x3)] [.inl (x3 + (2 : Int32)), .inr (.inr 4000), .inl v76, .inr (.inr x1)] (by decide +kernel) rfl ?_
      refine s_sc (by decide +kernel) (fun v77 => ?_)
      refine s_run (b := [(.aload_n 0, 1), (.iload_n 3, 1), (.iconst 3, 1), (.iadd, 1)]) 523 [some (.inr (.inr 4000)), some (.inr (.inr x1)), some (.inr (.inr x2)), some (.inl x3)] [.inl (x3 + (3 : Int32)), .inr (.inr 4000), .inl v77, .inl v76, .inr (.inr x1)] (by decide +kernel) rfl ?_
      refine s_sc (by decide +kernel) (fun v78 => ?_)
      refine s_run (b := [(.aload_n 0, 1), (.iload_n 3, 1), (.iconst 4, 1), (.iadd, 1)]) 528 [some (.inr (.inr 4000)), some (.inr (.inr x1)), some (.inr (.inr x2)), some (.inl x3)] [.inl (x3 + (4 : Int32)), .inr (.inr 4000), .inl v78, .inl v77, .inl v76, .inr (.inr x1)] (by decide +kernel) rfl ?_
      refine s_sc (by decide +kernel) (fun v79 => ?_)
      refine s_if_eq (tgt := 536) (off := 7) (by decide +kernel) (by decide) (fun h80 => ?_) (fun h80 => ?_)
      · skip
        refine s_run (b := [(.iconst 0, 1)]) 537 [some (.inr (.inr 4000)), some (.inr (.inr x1)), some (.inr (.inr x2)), some (.inl x3)] [.inl (0 : Int32), .inl v78, .inl v77, .inl v76, .inr (.inr x1)] (by decide +kernel) rfl ?_
        exact s_lsub (ls' := [some (.inr (.inr 4000)), some (.inr (.inr x1)), some (.inr (.inr x2)), some (.inl x3)]) ⟨rfl, ⟨rfl, ⟨rfl, ⟨rfl, trivial⟩⟩⟩⟩ (J_L_law_537 M x1 x2 x3 x1 v76 v77 v78 (0 : Int32) K kk1 kk2_0)
      · skip
        refine s_run (b := [(.iconst 1, 1), (.goto 4, 3)]) 537 [some (.inr (.inr 4000)), some (.inr (.inr x1)), some (.inr (.inr x2)), some (.inl x3)] [.inl (1 : Int32), .inl v78, .inl v77, .inl v76, .inr (.inr x1)] (by decide +kernel) rfl ?_
        exact s_lsub (ls' := [some (.inr (.inr 4000)), some (.inr (.inr x1)), some (.inr (.inr x2)), some (.inl x3)]) ⟨rfl, ⟨rfl, ⟨rfl, ⟨rfl, trivial⟩⟩⟩⟩ (J_L_law_537 M x1 x2 x3 x1 v76 v77 v78 (1 : Int32) K kk1 kk2_0)
    refine s_ite (fun h81 => ?_) (fun h81 => ?_)
    · refine s_tabIn (off := 544) (tgt := 577) (dflt := 1812) (lo := 0) (hi := 38) (offs := #[171, 234, 257, 290, 313, 346, 389, 422, 475, 544, 567, 627, 687, 740, 774, 817, 860, 913, 972, 1015, 1064, 1113, 1172, 1205, 1238, 1271, 1294, 1337, 1380, 1439, 1482, 1525, 1558, 1618, 1641, 1694, 1743, 1766, 1789]) (len := 171) (9 : Int32) (by decide +kernel) h81 rfl rfl rfl (by decide) ?_
      change Sim l G Y_L_law lim _ _ 577 [some (.inr (.inr 4000)), some (.inr (.inr x1)), some (.inr (.inr x2)), some (.inl x3)] [] M
      refine s_run (b := [(.aload_n 1, 1), (.aload_n 0, 1), (.iload_n 3, 1), (.iconst 1, 1), (.iadd, 1)]) 582 [some (.inr (.inr 4000)), some (.inr (.inr x1)), some (.inr (.inr x2)), some (.inl x3)] [.inl (x3 + (1 : Int32)), .inr (.inr 4000), .inr (.inr x1)] (by decide +kernel) rfl ?_
      refine s_sc (by decide +kernel) (fun v82 => ?_)
      refine s_cV (Z := Y_X11_enough) (c := 11) (vs := [.inl v82]) (st := []) (rO := fun z => some (.inl z.1)) (mO := fun z => z.2) zk_X11_enough zi_X11_enough q850 rfl ⟨by decide, by decide⟩ ⟨rfl, rfl⟩ rfl rfl (Nat.le_of_ble_eq_true rfl) (by decide +kernel) (fun z hz => c_X11_enough hz) (fun z83 => ?_)
      change Sim l G Y_L_law lim _ _ 586 [some (.inr (.inr 4000)), some (.inr (.inr x1)), some (.inr (.inr x2)), some (.inl x3)] [.inl z83.1] z83.2
      refine s_run (b := [(.aload_n 2, 1), (.aload_n 0, 1), (.iload_n 3, 1), (.iconst 1, 1), (.iadd, 1)]) 591 [some (.inr (.inr 4000)), some (.inr (.inr x1)), some (.inr (.inr x2)), some (.inl x3)] [.inl (x3 + (1 : Int32)), .inr (.inr 4000), .inr (.inr x2), .inl z83.1] (by decide +kernel) rfl ?_
      refine s_sc (by decide +kernel) (fun v84 => ?_)
      refine s_cV (Z := Y_X12_enough) (c := 12) (vs := [.inl v84]) (st := [.inl z83.1]) (rO := fun z => some (.inl z.1)) (mO := fun z => z.2) zk_X12_enough zi_X12_enough q1645 rfl ⟨by decide, by decide⟩ ⟨rfl, rfl⟩ rfl rfl (Nat.le_of_ble_eq_true rfl) (by decide +kernel) (fun z hz => c_X12_enough hz) (fun z85 => ?_)
      change Sim l G Y_L_law lim _ _ 595 [some (.inr (.inr 4000)), some (.inr (.inr x1)), some (.inr (.inr x2)), some (.inl x3)] [.inl z85.1, .inl z83.1] z85.2
      refine s_ic_eq (tgt := 1845) (off := 1250) (by decide +kernel) (by decide) (fun h86 => ?_) (fun h86 => ?_)
      · skip
        refine s_run (b := [(.iinc 3 6, 3), (.goto (-1830), 3)]) 18 [some (.inr (.inr 4000)), some (.inr (.inr x1)), some (.inr (.inr x2)), some (.inl (x3 + (6 : Int32)))] [] (by decide +kernel) rfl ?_
        exact s_lsub (ls' := [some (.inr (.inr 4000)), some (.inr (.inr x1)), some (.inr (.inr x2)), some (.inl (x3 + (6 : Int32)))]) ⟨rfl, ⟨rfl, ⟨rfl, ⟨rfl, trivial⟩⟩⟩⟩ (kk1 (x3 + (6 : Int32)) z85.2)
      · skip
        exact s_none
    refine s_ite (fun h87 => ?_) (fun h87 => ?_)
    · refine s_tabIn (off := 567) (tgt := 600) (dflt := 1812) (lo := 0) (hi := 38) (offs := #[171, 234, 257, 290, 313, 346, 389, 422, 475, 544, 567, 627, 687, 740, 774, 817, 860, 913, 972, 1015, 1064, 1113, 1172, 1205, 1238, 1271, 1294, 1337, 1380, 1439, 1482, 1525, 1558, 1618, 1641, 1694, 1743, 1766, 1789]) (len := 171) (10 : Int32) (by decide +kernel) h87 rfl rfl rfl (by decide) ?_
      change Sim l G Y_L_law lim _ _ 600 [some (.inr (.inr 4000)), some (.inr (.inr x1)), some (.inr (.inr x2)), some (.inl x3)] [] M
      refine s_run (b := [(.aload_n 1, 1), (.aload_n 0, 1), (.iload_n 3, 1), (.iconst 1, 1), (.iadd, 1)]) 605 [some (.inr (.inr 4000)), some (.inr (.inr x1)), some (.inr (.inr x2)), some (.inl x3)] [.inl (x3 + (1 : Int32)), .inr (.inr 4000), .inr (.inr x1)] (by decide +kernel) rfl ?_
      refine s_sc (by decide +kernel) (fun v88 => ?_)
      refine s_run (b := [(.aload_n 0, 1), (.iload_n 3, 1), (.iconst 2, 1), (.iadd, 1)]) 610 [some (.inr (.inr 4000)), some (.inr (.inr x1)), some (.inr (.inr x2)), some (.inl x3)] [.inl (x3 + (2 : Int32)), .inr (.inr 4000), .inl v88, .inr (.inr x1)] (by decide +kernel) rfl ?_
      refine s_sc (by decide +kernel) (fun v89 => ?_)
      refine s_run (b := [(.aload_n 0, 1), (.iload_n 3, 1), (.iconst 3, 1), (.iadd, 1)]) 615 [some (.inr (.inr 4000)), some (.inr (.inr x1)), some (.inr (.inr x2)), some (.inl x3)] [.inl (x3 + (3 : Int32)), .inr (.inr 4000), .inl v89, .inl v88, .inr (.inr x1)] (by decide +kernel) rfl ?_
      refine s_sc (by decide +kernel) (fun v90 => ?_)
      refine s_if_eq (tgt := 623) (off := 7) (by decide +kernel) (by decide) (fun h91 => ?_) (fun h91 => ?_)
      · skip
        refine s_run (b := [(.iconst 0, 1)]) 624 [some (.inr (.inr 4000)), some (.inr (.inr x1)), some (.inr (.inr x2)), some (.inl x3)] [.inl (0 : Int32), .inl v89, .inl v88, .inr (.inr x1)] (by decide +kernel) rfl ?_
        exact s_lsub (ls' := [some (.inr (.inr 4000)), some (.inr (.inr x1)), some (.inr (.inr x2)), some (.inl x3)]) ⟨rfl, ⟨rfl, ⟨rfl, ⟨rfl, trivial⟩⟩⟩⟩ (J_L_law_624 M x1 x2 x3 x1 v88 v89 (0 : Int32) K kk1 kk2_0)
      · skip
        refine s_run (b := [(.iconst 1, 1), (.goto 4, 3)]) 624 [some (.inr (.inr 4000)), some (.inr (.inr x1)), some (.inr (.inr x2)), some (.inl x3)] [.inl (1 : Int32), .inl v89, .inl v88, .inr (.inr x1)] (by decide +kernel) rfl ?_
        exact s_lsub (ls' := [some (.inr (.inr 4000)), some (.inr (.inr x1)), some (.inr (.inr x2)), some (.inl x3)]) ⟨rfl, ⟨rfl, ⟨rfl, ⟨rfl, trivial⟩⟩⟩⟩ (J_L_law_624 M x1 x2 x3 x1 v88 v89 (1 : Int32) K kk1 kk2_0)
    refine s_ite (fun h92 => ?_) (fun h92 => ?_)
    · refine s_tabIn (off := 627) (tgt := 660) (dflt := 1812) (lo := 0) (hi := 38) (offs := #[171, 234, 257, 290, 313, 346, 389, 422, 475, 544, 567, 627, 687, 740, 774, 817, 860, 913, 972, 1015, 1064, 1113, 1172, 1205, 1238, 1271, 1294, 1337, 1380, 1439, 1482, 1525, 1558, 1618, 1641, 1694, 1743, 1766, 1789]) (len := 171) (11 : Int32) (by decide +kernel) h92 rfl rfl rfl (by decide) ?_
      change Sim l G Y_L_law lim _ _ 660 [some (.inr (.inr 4000)), some (.inr (.inr x1)), some (.inr (.inr x2)), some (.inl x3)] [] M
      refine s_run (b := [(.aload_n 1, 1), (.aload_n 0, 1), (.iload_n 3, 1), (.iconst 1, 1), (.iadd, 1)]) 665 [some (.inr (.inr 4000)), some (.inr (.inr x1)), some (.inr (.inr x2)), some (.inl x3)] [.inl (x3 + (1 : Int32)), .inr (.inr 4000), .inr (.inr x1)] (by decide +kernel) rfl ?_
      refine s_sc (by decide +kernel) (fun v93 => ?_)
      refine s_run (b := [(.aload_n 0, 1), (.iload_n 3, 1), (.iconst 2, 1), (.iadd, 1)]) 670 [some (.inr (.inr 4000)), some (.inr (.inr x1)), some (.inr (.inr x2)), some (.inl x3)] [.inl (x3 + (2 : Int32)), .inr (.inr 4000), .inl v93, .inr (.inr x1)] (by decide +kernel) rfl ?_
      refine s_sc (by decide +kernel) (fun v94 => ?_)
      refine s_run (b := [(.aload_n 0, 1), (.iload_n 3, 1), (.iconst 3, 1), (.iadd, 1)]) 675 [some (.inr (.inr 4000)), some (.inr (.inr x1)), some (.inr (.inr x2)), some (.inl x3)] [.inl (x3 + (3 : Int32)), .inr (.inr 4000), .inl v94, .inl v93, .inr (.inr x1)] (by decide +kernel) rfl ?_
      refine s_sc (by decide +kernel) (fun v95 => ?_)
      refine s_if_eq (tgt := 683) (off := 7) (by decide +kernel) (by decide) (fun h96 => ?_) (fun h96 => ?_)
      · skip
        refine s_run (b := [(.iconst 0, 1)]) 684 [some (.inr (.inr 4000)), some (.inr (.inr x1)), some (.inr (.inr x2)), some (.inl x3)] [.inl (0 : Int32), .inl v94, .inl v93, .inr (.inr x1)] (by decide +kernel) rfl ?_
        exact s_lsub (ls' := [some (.inr (.inr 4000)), some (.inr (.inr x1)), some (.inr (.inr x2)), some (.inl x3)]) ⟨rfl, ⟨rfl, ⟨rfl, ⟨rfl, trivial⟩⟩⟩⟩ (J_L_law_684 M x1 x2 x3 x1 v93 v94 (0 : Int32) K kk1 kk2_0)
      · skip
        refine s_run (b := [(.iconst 1, 1), (.goto 4, 3)]) 684 [some (.inr (.inr 4000)), some (.inr (.inr x1)), some (.inr (.inr x2)), some (.inl x3)] [.inl (1 : Int32), .inl v94, .inl v93, .inr (.inr x1)] (by decide +kernel) rfl ?_
        exact s_lsub (ls' := [some (.inr (.inr 4000)), some (.inr (.inr x1)), some (.inr (.inr x2)), some (.inl x3)]) ⟨rfl, ⟨rfl, ⟨rfl, ⟨rfl, trivial⟩⟩⟩⟩ (J_L_law_684 M x1 x2 x3 x1 v93 v94 (1 : Int32) K kk1 kk2_0)
    refine s_ite (fun h97 => ?_) (fun h97 => ?_)
    · refine s_tabIn (off := 687) (tgt := 720) (dflt := 1812) (lo := 0) (hi := 38) (offs := #[171, 234, 257, 290, 313, 346, 389, 422, 475, 544, 567, 627, 687, 740, 774, 817, 860, 913, 972, 1015, 1064, 1113, 1172, 1205, 1238, 1271, 1294, 1337, 1380, 1439, 1482, 1525, 1558, 1618, 1641, 1694, 1743, 1766, 1789]) (len := 171) (12 : Int32) (by decide +kernel) h97 rfl rfl rfl (by decide) ?_
      change Sim l G Y_L_law lim _ _ 720 [some (.inr (.inr 4000)), some (.inr (.inr x1)), some (.inr (.inr x2)), some (.inl x3)] [] M
      refine s_run (b := [(.aload_n 1, 1), (.aload_n 0, 1), (.iload_n 3, 1), (.iconst 1, 1), (.iadd, 1)]) 725 [some (.inr (.inr 4000)), some (.inr (.inr x1)), some (.inr (.inr x2)), some (.inl x3)] [.inl (x3 + (1 : Int32)), .inr (.inr 4000), .inr (.inr x1)] (by decide +kernel) rfl ?_
      refine s_sc (by decide +kernel) (fun v98 => ?_)
      refine s_run (b := [(.aload_n 0, 1), (.iload_n 3, 1), (.iconst 2, 1), (.iadd, 1)]) 730 [some (.inr (.inr 4000)), some (.inr (.inr x1)), some (.inr (.inr x2)), some (.inl x3)] [.inl (x3 + (2 : Int32)), .inr (.inr 4000), .inl v98, .inr (.inr x1)] (by decide +kernel) rfl ?_
      refine s_sc (by decide +kernel) (fun v99 => ?_)
      refine s_run (b := [(.aload_n 0, 1), (.iload_n 3, 1), (.iconst 3, 1), (.iadd, 1)]) 735 [some (.inr (.inr 4000)), some (.inr (.inr x1)), some (.inr (.inr x2)), some (.inl x3)] [.inl (x3 + (3 : Int32)), .inr (.inr 4000), .inl v99, .inl v98, .inr (.inr x1)] (by decide +kernel) rfl ?_
      refine s_sc (by decide +kernel) (fun v100 => ?_)
      refine s_run (b := [(.aload_n 0, 1), (.iload_n 3, 1), (.iconst 4, 1), (.iadd, 1)]) 740 [some (.inr (.inr 4000)), some (.inr (.inr x1)), some (.inr (.inr x2)), some (.inl x3)] [.inl (x3 + (4 : Int32)), .inr (.inr 4000), .inl v100, .inl v99, .inl v98, .inr (.inr x1)] (by decide +kernel) rfl ?_
      refine s_sc (by decide +kernel) (fun v101 => ?_)
      refine s_cV (Z := Y_X11_rest) (c := 11) (vs := [.inl v98, .inl v99, .inl v100, .inl v101]) (st := []) (rO := fun z => some (.inl z.1)) (mO := fun z => z.2) zk_X11_rest zi_X11_rest q901 rfl ⟨by decide, by decide⟩ ⟨rfl, rfl⟩ rfl rfl (Nat.le_of_ble_eq_true rfl) (by decide +kernel) (fun z hz => c_X11_rest hz) (fun z102 => ?_)
      change Sim l G Y_L_law lim _ _ 744 [some (.inr (.inr 4000)), some (.inr (.inr x1)), some (.inr (.inr x2)), some (.inl x3)] [.inl z102.1] z102.2
      refine s_run (b := [(.aload_n 2, 1), (.aload_n 0, 1), (.iload_n 3, 1), (.iconst 1, 1), (.iadd, 1)]) 749 [some (.inr (.inr 4000)), some (.inr (.inr x1)), some (.inr (.inr x2)), some (.inl x3)] [.inl (x3 + (1 : Int32)), .inr (.inr 4000), .inr (.inr x2), .inl z102.1] (by decide +kernel) rfl ?_
      refine s_sc (by decide +kernel) (fun v103 => ?_)
      refine s_run (b := [(.aload_n 0, 1), (.iload_n 3, 1), (.iconst 2, 1), (.iadd, 1)]) 754 [some (.inr (.inr 4000)), some (.inr (.inr x1)), some (.inr (.inr x2)), some (.inl x3)] [.inl (x3 + (2 : Int32)), .inr (.inr 4000), .inl v103, .inr (.inr x2), .inl z102.1] (by decide +kernel) rfl ?_
      refine s_sc (by decide +kernel) (fun v104 => ?_)
      refine s_run (b := [(.aload_n 0, 1), (.iload_n 3, 1), (.iconst 3, 1), (.iadd, 1)]) 759 [some (.inr (.inr 4000)), some (.inr (.inr x1)), some (.inr (.inr x2)), some (.inl x3)] [.inl (x3 + (3 : Int32)), .inr (.inr 4000), .inl v104, .inl v103, .inr (.inr x2), .inl z102.1] (by decide +kernel) rfl ?_
      refine s_sc (by decide +kernel) (fun v105 => ?_)
      refine s_run (b := [(.aload_n 0, 1), (.iload_n 3, 1), (.iconst 4, 1), (.iadd, 1)]) 764 [some (.inr (.inr 4000)), some (.inr (.inr x1)), some (.inr (.inr x2)), some (.inl x3)] [.inl (x3 + (4 : Int32)), .inr (.inr 4000), .inl v105, .inl v104, .inl v103, .inr (.inr x2), .inl z102.1] (by decide +kernel) rfl ?_
      refine s_sc (by decide +kernel) (fun v106 => ?_)
      refine s_cV (Z := Y_X12_rest) (c := 12) (vs := [.inl v103, .inl v104, .inl v105, .inl v106]) (st := [.inl z102.1]) (rO := fun z => some (.inl z.1)) (mO := fun z => z.2) zk_X12_rest zi_X12_rest q1683 rfl ⟨by decide, by decide⟩ ⟨rfl, rfl⟩ rfl rfl (Nat.le_of_ble_eq_true rfl) (by decide +kernel) (fun z hz => c_X12_rest hz) (fun z107 => ?_)
      change Sim l G Y_L_law lim _ _ 768 [some (.inr (.inr 4000)), some (.inr (.inr x1)), some (.inr (.inr x2)), some (.inl x3)] [.inl z107.1, .inl z102.1] z107.2
      refine s_ic_eq (tgt := 1845) (off := 1077) (by decide +kernel) (by decide) (fun h108 => ?_) (fun h108 => ?_)
      · skip
        refine s_run (b := [(.iinc 3 6, 3), (.goto (-1830), 3)]) 18 [some (.inr (.inr 4000)), some (.inr (.inr x1)), some (.inr (.inr x2)), some (.inl (x3 + (6 : Int32)))] [] (by decide +kernel) rfl ?_
        exact s_lsub (ls' := [some (.inr (.inr 4000)), some (.inr (.inr x1)), some (.inr (.inr x2)), some (.inl (x3 + (6 : Int32)))]) ⟨rfl, ⟨rfl, ⟨rfl, ⟨rfl, trivial⟩⟩⟩⟩ (kk1 (x3 + (6 : Int32)) z107.2)
      · skip
        exact s_none
    refine s_ite (fun h109 => ?_) (fun h109 => ?_)
    · refine s_tabIn (off := 740) (tgt := 773) (dflt := 1812) (lo := 0) (hi := 38) (offs := #[171, 234, 257, 290, 313, 346, 389, 422, 475, 544, 567, 627, 687, 740, 774, 817, 860, 913, 972, 1015, 1064, 1113, 1172, 1205, 1238, 1271, 1294, 1337, 1380, 1439, 1482, 1525, 1558, 1618, 1641, 1694, 1743, 1766, 1789]) (len := 171) (13 : Int32) (by decide +kernel) h109 rfl rfl rfl (by decide) ?_
      change Sim l G Y_L_law lim _ _ 773 [some (.inr (.inr 4000)), some (.inr (.inr x1)), some (.inr (.inr x2)), some (.inl x3)] [] M
      refine s_run (b := [(.aload_n 1, 1), (.aload_n 0, 1), (.iload_n 3, 1), (.iconst 1, 1), (.iadd, 1)]) 778 [some (.inr (.inr 4000)), some (.inr (.inr x1)), some (.inr (.inr x2)), some (.inl x3)] [.inl (x3 + (1 : Int32)), .inr (.inr 4000), .inr (.inr x1)] (by decide +kernel) rfl ?_
      refine s_sc (by decide +kernel) (fun v110 => ?_)
      refine s_run (b := [(.aload_n 0, 1), (.iload_n 3, 1), (.iconst 2, 1), (.iadd, 1)]) 783 [some (.inr (.inr 4000)), some (.inr (.inr x1)), some (.inr (.inr x2)), some (.inl x3)] [.inl (x3 + (2 : Int32)), .inr (.inr 4000), .inl v110, .inr (.inr x1)] (by decide +kernel) rfl ?_
      refine s_sc (by decide +kernel) (fun v111 => ?_)
      refine s_cV (Z := Y_X11_button) (c := 11) (vs := [.inl v110, .inl v111]) (st := []) (rO := fun z => some (.inr (.inl z.1))) (mO := fun z => z.2) zk_X11_button zi_X11_button q965 rfl ⟨by decide, by decide⟩ ⟨rfl, rfl⟩ rfl rfl (Nat.le_of_ble_eq_true rfl) (by decide +kernel) (fun z hz => c_X11_button hz) (fun z112 => ?_)
      change Sim l G Y_L_law lim _ _ 787 [some (.inr (.inr 4000)), some (.inr (.inr x1)), some (.inr (.inr x2)), some (.inl x3)] [.inr (.inl z112.1)] z112.2
      refine s_run (b := [(.aload_n 2, 1), (.aload_n 0, 1), (.iload_n 3, 1), (.iconst 1, 1), (.iadd, 1)]) 792 [some (.inr (.inr 4000)), some (.inr (.inr x1)), some (.inr (.inr x2)), some (.inl x3)] [.inl (x3 + (1 : Int32)), .inr (.inr 4000), .inr (.inr x2), .inr (.inl z112.1)] (by decide +kernel) rfl ?_
      refine s_sc (by decide +kernel) (fun v113 => ?_)
      refine s_run (b := [(.aload_n 0, 1), (.iload_n 3, 1), (.iconst 2, 1), (.iadd, 1)]) 797 [some (.inr (.inr 4000)), some (.inr (.inr x1)), some (.inr (.inr x2)), some (.inl x3)] [.inl (x3 + (2 : Int32)), .inr (.inr 4000), .inl v113, .inr (.inr x2), .inr (.inl z112.1)] (by decide +kernel) rfl ?_
      refine s_sc (by decide +kernel) (fun v114 => ?_)
      refine s_cV (Z := Y_X12_button) (c := 12) (vs := [.inl v113, .inl v114]) (st := [.inr (.inl z112.1)]) (rO := fun z => some (.inr (.inl z.1))) (mO := fun z => z.2) zk_X12_button zi_X12_button q1715 rfl ⟨by decide, by decide⟩ ⟨rfl, rfl⟩ rfl rfl (Nat.le_of_ble_eq_true rfl) (by decide +kernel) (fun z hz => c_X12_button hz) (fun z115 => ?_)
      change Sim l G Y_L_law lim _ _ 801 [some (.inr (.inr 4000)), some (.inr (.inr x1)), some (.inr (.inr x2)), some (.inl x3)] [.inr (.inl z115.1), .inr (.inl z112.1)] z115.2
      refine s_run (b := [(.lcmp, 1)]) 802 [some (.inr (.inr 4000)), some (.inr (.inr x1)), some (.inr (.inr x2)), some (.inl x3)] [.inl (lg_cmp z112.1 z115.1)] (by decide +kernel) rfl ?_
      refine s_if_eq (tgt := 1845) (off := 1043) (by decide +kernel) (by decide) (fun h116 => ?_) (fun h116 => ?_)
      · skip
        refine s_run (b := [(.iinc 3 6, 3), (.goto (-1830), 3)]) 18 [some (.inr (.inr 4000)), some (.inr (.inr x1)), some (.inr (.inr x2)), some (.inl (x3 + (6 : Int32)))] [] (by decide +kernel) rfl ?_
        exact s_lsub (ls' := [some (.inr (.inr 4000)), some (.inr (.inr x1)), some (.inr (.inr x2)), some (.inl (x3 + (6 : Int32)))]) ⟨rfl, ⟨rfl, ⟨rfl, ⟨rfl, trivial⟩⟩⟩⟩ (kk1 (x3 + (6 : Int32)) z115.2)
      · skip
        exact s_none
    refine s_ite (fun h117 => ?_) (fun h117 => ?_)
    · refine s_tabIn (off := 774) (tgt := 807) (dflt := 1812) (lo := 0) (hi := 38) (offs := #[171, 234, 257, 290, 313, 346, 389, 422, 475, 544, 567, 627, 687, 740, 774, 817, 860, 913, 972, 1015, 1064, 1113, 1172, 1205, 1238, 1271, 1294, 1337, 1380, 1439, 1482, 1525, 1558, 1618, 1641, 1694, 1743, 1766, 1789]) (len := 171) (14 : Int32) (by decide +kernel) h117 rfl rfl rfl (by decide) ?_
      change Sim l G Y_L_law lim _ _ 807 [some (.inr (.inr 4000)), some (.inr (.inr x1)), some (.inr (.inr x2)), some (.inl x3)] [] M
      refine s_run (b := [(.aload_n 1, 1), (.aload_n 0, 1), (.iload_n 3, 1), (.iconst 1, 1), (.iadd, 1)]) 812 [some (.inr (.inr 4000)), some (.inr (.inr x1)), some (.inr (.inr x2)), some (.inl x3)] [.inl (x3 + (1 : Int32)), .inr (.inr 4000), .inr (.inr x1)] (by decide +kernel) rfl ?_
      refine s_sc (by decide +kernel) (fun v118 => ?_)
      refine s_run (b := [(.aload_n 0, 1), (.iload_n 3, 1), (.iconst 2, 1), (.iadd, 1)]) 817 [some (.inr (.inr 4000)), some (.inr (.inr x1)), some (.inr (.inr x2)), some (.inl x3)] [.inl (x3 + (2 : Int32)), .inr (.inr 4000), .inl v118, .inr (.inr x1)] (by decide +kernel) rfl ?_
      refine s_sc (by decide +kernel) (fun v119 => ?_)
      refine s_run (b := [(.aload_n 0, 1), (.iload_n 3, 1), (.iconst 3, 1), (.iadd, 1)]) 822 [some (.inr (.inr 4000)), some (.inr (.inr x1)), some (.inr (.inr x2)), some (.inl x3)] [.inl (x3 + (3 : Int32)), .inr (.inr 4000), .inl v119, .inl v118, .inr (.inr x1)] (by decide +kernel) rfl ?_
      refine s_sc (by decide +kernel) (fun v120 => ?_)
      refine s_cV (Z := Y_X11_fact) (c := 11) (vs := [.inl v118, .inl v119, .inl v120]) (st := []) (rO := fun z => some (.inl z)) (mO := fun _ => M) zk_X11_fact zi_X11_fact q977 rfl ⟨by decide, by decide⟩ ⟨rfl, rfl⟩ rfl rfl (Nat.le_of_ble_eq_true rfl) (by decide +kernel) (fun z hz => c_X11_fact hz) (fun v121 => ?_)
      change Sim l G Y_L_law lim _ _ 826 [some (.inr (.inr 4000)), some (.inr (.inr x1)), some (.inr (.inr x2)), some (.inl x3)] [.inl v121] M
      refine s_run (b := [(.aload_n 2, 1), (.aload_n 0, 1), (.iload_n 3, 1), (.iconst 1, 1), (.iadd, 1)]) 831 [some (.inr (.inr 4000)), some (.inr (.inr x1)), some (.inr (.inr x2)), some (.inl x3)] [.inl (x3 + (1 : Int32)), .inr (.inr 4000), .inr (.inr x2), .inl v121] (by decide +kernel) rfl ?_
      refine s_sc (by decide +kernel) (fun v122 => ?_)
      refine s_run (b := [(.aload_n 0, 1), (.iload_n 3, 1), (.iconst 2, 1), (.iadd, 1)]) 836 [some (.inr (.inr 4000)), some (.inr (.inr x1)), some (.inr (.inr x2)), some (.inl x3)] [.inl (x3 + (2 : Int32)), .inr (.inr 4000), .inl v122, .inr (.inr x2), .inl v121] (by decide +kernel) rfl ?_
      refine s_sc (by decide +kernel) (fun v123 => ?_)
      refine s_run (b := [(.aload_n 0, 1), (.iload_n 3, 1), (.iconst 3, 1), (.iadd, 1)]) 841 [some (.inr (.inr 4000)), some (.inr (.inr x1)), some (.inr (.inr x2)), some (.inl x3)] [.inl (x3 + (3 : Int32)), .inr (.inr 4000), .inl v123, .inl v122, .inr (.inr x2), .inl v121] (by decide +kernel) rfl ?_
      refine s_sc (by decide +kernel) (fun v124 => ?_)
      refine s_cV (Z := Y_X12_fact) (c := 12) (vs := [.inl v122, .inl v123, .inl v124]) (st := [.inl v121]) (rO := fun z => some (.inl z.1)) (mO := fun z => z.2) zk_X12_fact zi_X12_fact q1731 rfl ⟨by decide, by decide⟩ ⟨rfl, rfl⟩ rfl rfl (Nat.le_of_ble_eq_true rfl) (by decide +kernel) (fun z hz => c_X12_fact hz) (fun z125 => ?_)
      change Sim l G Y_L_law lim _ _ 845 [some (.inr (.inr 4000)), some (.inr (.inr x1)), some (.inr (.inr x2)), some (.inl x3)] [.inl z125.1, .inl v121] z125.2
      refine s_ic_eq (tgt := 1845) (off := 1000) (by decide +kernel) (by decide) (fun h126 => ?_) (fun h126 => ?_)
      · skip
        refine s_run (b := [(.iinc 3 6, 3), (.goto (-1830), 3)]) 18 [some (.inr (.inr 4000)), some (.inr (.inr x1)), some (.inr (.inr x2)), some (.inl (x3 + (6 : Int32)))] [] (by decide +kernel) rfl ?_
        exact s_lsub (ls' := [some (.inr (.inr 4000)), some (.inr (.inr x1)), some (.inr (.inr x2)), some (.inl (x3 + (6 : Int32)))]) ⟨rfl, ⟨rfl, ⟨rfl, ⟨rfl, trivial⟩⟩⟩⟩ (kk1 (x3 + (6 : Int32)) z125.2)
      · skip
        exact s_none
    refine s_ite (fun h127 => ?_) (fun h127 => ?_)
    · refine s_tabIn (off := 817) (tgt := 850) (dflt := 1812) (lo := 0) (hi := 38) (offs := #[171, 234, 257, 290, 313, 346, 389, 422, 475, 544, 567, 627, 687, 740, 774, 817, 860, 913, 972, 1015, 1064, 1113, 1172, 1205, 1238, 1271, 1294, 1337, 1380, 1439, 1482, 1525, 1558, 1618, 1641, 1694, 1743, 1766, 1789]) (len := 171) (15 : Int32) (by decide +kernel) h127 rfl rfl rfl (by decide) ?_
      change Sim l G Y_L_law lim _ _ 850 [some (.inr (.inr 4000)), some (.inr (.inr x1)), some (.inr (.inr x2)), some (.inl x3)] [] M
      refine s_run (b := [(.aload_n 1, 1), (.aload_n 0, 1), (.iload_n 3, 1), (.iconst 1, 1), (.iadd, 1)]) 855 [some (.inr (.inr 4000)), some (.inr (.inr x1)), some (.inr (.inr x2)), some (.inl x3)] [.inl (x3 + (1 : Int32)), .inr (.inr 4000), .inr (.inr x1)] (by decide +kernel) rfl ?_
      refine s_sc (by decide +kernel) (fun v128 => ?_)
      refine s_run (b := [(.aload_n 0, 1), (.iload_n 3, 1), (.iconst 2, 1), (.iadd, 1)]) 860 [some (.inr (.inr 4000)), some (.inr (.inr x1)), some (.inr (.inr x2)), some (.inl x3)] [.inl (x3 + (2 : Int32)), .inr (.inr 4000), .inl v128, .inr (.inr x1)] (by decide +kernel) rfl ?_
      refine s_sc (by decide +kernel) (fun v129 => ?_)
      refine s_run (b := [(.aload_n 0, 1), (.iload_n 3, 1), (.iconst 3, 1), (.iadd, 1)]) 865 [some (.inr (.inr 4000)), some (.inr (.inr x1)), some (.inr (.inr x2)), some (.inl x3)] [.inl (x3 + (3 : Int32)), .inr (.inr 4000), .inl v129, .inl v128, .inr (.inr x1)] (by decide +kernel) rfl ?_
      refine s_sc (by decide +kernel) (fun v130 => ?_)
      refine s_cV (Z := Y_X11_fits) (c := 11) (vs := [.inl v128, .inl v129, .inl v130]) (st := []) (rO := fun z => some (.inl z.1)) (mO := fun z => z.2) zk_X11_fits zi_X11_fits q989 rfl ⟨by decide, by decide⟩ ⟨rfl, rfl⟩ rfl rfl (Nat.le_of_ble_eq_true rfl) (by decide +kernel) (fun z hz => c_X11_fits hz) (fun z131 => ?_)
      change Sim l G Y_L_law lim _ _ 869 [some (.inr (.inr 4000)), some (.inr (.inr x1)), some (.inr (.inr x2)), some (.inl x3)] [.inl z131.1] z131.2
      refine s_run (b := [(.aload_n 2, 1), (.aload_n 0, 1), (.iload_n 3, 1), (.iconst 1, 1), (.iadd, 1)]) 874 [some (.inr (.inr 4000)), some (.inr (.inr x1)), some (.inr (.inr x2)), some (.inl x3)] [.inl (x3 + (1 : Int32)), .inr (.inr 4000), .inr (.inr x2), .inl z131.1] (by decide +kernel) rfl ?_
      refine s_sc (by decide +kernel) (fun v132 => ?_)
      refine s_run (b := [(.aload_n 0, 1), (.iload_n 3, 1), (.iconst 2, 1), (.iadd, 1)]) 879 [some (.inr (.inr 4000)), some (.inr (.inr x1)), some (.inr (.inr x2)), some (.inl x3)] [.inl (x3 + (2 : Int32)), .inr (.inr 4000), .inl v132, .inr (.inr x2), .inl z131.1] (by decide +kernel) rfl ?_
      refine s_sc (by decide +kernel) (fun v133 => ?_)
      refine s_run (b := [(.aload_n 0, 1), (.iload_n 3, 1), (.iconst 3, 1), (.iadd, 1)]) 884 [some (.inr (.inr 4000)), some (.inr (.inr x1)), some (.inr (.inr x2)), some (.inl x3)] [.inl (x3 + (3 : Int32)), .inr (.inr 4000), .inl v133, .inl v132, .inr (.inr x2), .inl z131.1] (by decide +kernel) rfl ?_
      refine s_sc (by decide +kernel) (fun v134 => ?_)
      refine s_cV (Z := Y_X12_fits) (c := 12) (vs := [.inl v132, .inl v133, .inl v134]) (st := [.inl z131.1]) (rO := fun z => some (.inl z.1)) (mO := fun z => z.2) zk_X12_fits zi_X12_fits q1739 rfl ⟨by decide, by decide⟩ ⟨rfl, rfl⟩ rfl rfl (Nat.le_of_ble_eq_true rfl) (by decide +kernel) (fun z hz => c_X12_fits hz) (fun z135 => ?_)
      change Sim l G Y_L_law lim _ _ 888 [some (.inr (.inr 4000)), some (.inr (.inr x1)), some (.inr (.inr x2)), some (.inl x3)] [.inl z135.1, .inl z131.1] z135.2
      refine s_ic_eq (tgt := 1845) (off := 957) (by decide +kernel) (by decide) (fun h136 => ?_) (fun h136 => ?_)
      · skip
        refine s_run (b := [(.iinc 3 6, 3), (.goto (-1830), 3)]) 18 [some (.inr (.inr 4000)), some (.inr (.inr x1)), some (.inr (.inr x2)), some (.inl (x3 + (6 : Int32)))] [] (by decide +kernel) rfl ?_
        exact s_lsub (ls' := [some (.inr (.inr 4000)), some (.inr (.inr x1)), some (.inr (.inr x2)), some (.inl (x3 + (6 : Int32)))]) ⟨rfl, ⟨rfl, ⟨rfl, ⟨rfl, trivial⟩⟩⟩⟩ (kk1 (x3 + (6 : Int32)) z135.2)
      · skip
        exact s_none
    refine s_ite (fun h137 => ?_) (fun h137 => ?_)
    · refine s_tabIn (off := 860) (tgt := 893) (dflt := 1812) (lo := 0) (hi := 38) (offs := #[171, 234, 257, 290, 313, 346, 389, 422, 475, 544, 567, 627, 687, 740, 774, 817, 860, 913, 972, 1015, 1064, 1113, 1172, 1205, 1238, 1271, 1294, 1337, 1380, 1439, 1482, 1525, 1558, 1618, 1641, 1694, 1743, 1766, 1789]) (len := 171) (16 : Int32) (by decide +kernel) h137 rfl rfl rfl (by decide) ?_
      change Sim l G Y_L_law lim _ _ 893 [some (.inr (.inr 4000)), some (.inr (.inr x1)), some (.inr (.inr x2)), some (.inl x3)] [] M
      refine s_run (b := [(.aload_n 1, 1), (.aload_n 0, 1), (.iload_n 3, 1), (.iconst 1, 1), (.iadd, 1)]) 898 [some (.inr (.inr 4000)), some (.inr (.inr x1)), some (.inr (.inr x2)), some (.inl x3)] [.inl (x3 + (1 : Int32)), .inr (.inr 4000), .inr (.inr x1)] (by decide +kernel) rfl ?_
      refine s_sc (by decide +kernel) (fun v138 => ?_)
      refine s_run (b := [(.aload_n 0, 1), (.iload_n 3, 1), (.iconst 2, 1), (.iadd, 1)]) 903 [some (.inr (.inr 4000)), some (.inr (.inr x1)), some (.inr (.inr x2)), some (.inl x3)] [.inl (x3 + (2 : Int32)), .inr (.inr 4000), .inl v138, .inr (.inr x1)] (by decide +kernel) rfl ?_
      refine s_sc (by decide +kernel) (fun v139 => ?_)
      refine s_run (b := [(.aload_n 0, 1), (.iload_n 3, 1), (.iconst 3, 1), (.iadd, 1)]) 908 [some (.inr (.inr 4000)), some (.inr (.inr x1)), some (.inr (.inr x2)), some (.inl x3)] [.inl (x3 + (3 : Int32)), .inr (.inr 4000), .inl v139, .inl v138, .inr (.inr x1)] (by decide +kernel) rfl ?_
      refine s_sc (by decide +kernel) (fun v140 => ?_)
      refine s_run (b := [(.aload_n 0, 1), (.iload_n 3, 1), (.iconst 4, 1), (.iadd, 1)]) 913 [some (.inr (.inr 4000)), some (.inr (.inr x1)), some (.inr (.inr x2)), some (.inl x3)] [.inl (x3 + (4 : Int32)), .inr (.inr 4000), .inl v140, .inl v139, .inl v138, .inr (.inr x1)] (by decide +kernel) rfl ?_
      refine s_sc (by decide +kernel) (fun v141 => ?_)
      refine s_cV (Z := Y_X11_drawn) (c := 11) (vs := [.inl v138, .inl v139, .inl v140, .inl v141]) (st := []) (rO := fun z => some (.inl z.1)) (mO := fun z => z.2) zk_X11_drawn zi_X11_drawn q1040 rfl ⟨by decide, by decide⟩ ⟨rfl, rfl⟩ rfl rfl (Nat.le_of_ble_eq_true rfl) (by decide +kernel) (fun z hz => c_X11_drawn hz) (fun z142 => ?_)
      change Sim l G Y_L_law lim _ _ 917 [some (.inr (.inr 4000)), some (.inr (.inr x1)), some (.inr (.inr x2)), some (.inl x3)] [.inl z142.1] z142.2
      refine s_run (b := [(.aload_n 2, 1), (.aload_n 0, 1), (.iload_n 3, 1), (.iconst 1, 1), (.iadd, 1)]) 922 [some (.inr (.inr 4000)), some (.inr (.inr x1)), some (.inr (.inr x2)), some (.inl x3)] [.inl (x3 + (1 : Int32)), .inr (.inr 4000), .inr (.inr x2), .inl z142.1] (by decide +kernel) rfl ?_
      refine s_sc (by decide +kernel) (fun v143 => ?_)
      refine s_run (b := [(.aload_n 0, 1), (.iload_n 3, 1), (.iconst 2, 1), (.iadd, 1)]) 927 [some (.inr (.inr 4000)), some (.inr (.inr x1)), some (.inr (.inr x2)), some (.inl x3)] [.inl (x3 + (2 : Int32)), .inr (.inr 4000), .inl v143, .inr (.inr x2), .inl z142.1] (by decide +kernel) rfl ?_
      refine s_sc (by decide +kernel) (fun v144 => ?_)
      refine s_run (b := [(.aload_n 0, 1), (.iload_n 3, 1), (.iconst 3, 1), (.iadd, 1)]) 932 [some (.inr (.inr 4000)), some (.inr (.inr x1)), some (.inr (.inr x2)), some (.inl x3)] [.inl (x3 + (3 : Int32)), .inr (.inr 4000), .inl v144, .inl v143, .inr (.inr x2), .inl z142.1] (by decide +kernel) rfl ?_
      refine s_sc (by decide +kernel) (fun v145 => ?_)
      refine s_run (b := [(.aload_n 0, 1), (.iload_n 3, 1), (.iconst 4, 1), (.iadd, 1)]) 937 [some (.inr (.inr 4000)), some (.inr (.inr x1)), some (.inr (.inr x2)), some (.inl x3)] [.inl (x3 + (4 : Int32)), .inr (.inr 4000), .inl v145, .inl v144, .inl v143, .inr (.inr x2), .inl z142.1] (by decide +kernel) rfl ?_
      refine s_sc (by decide +kernel) (fun v146 => ?_)
      refine s_cV (Z := Y_X12_drawn) (c := 12) (vs := [.inl v143, .inl v144, .inl v145, .inl v146]) (st := [.inl z142.1]) (rO := fun z => some (.inl z.1)) (mO := fun z => z.2) zk_X12_drawn zi_X12_drawn q1914 rfl ⟨by decide, by decide⟩ ⟨rfl, rfl⟩ rfl rfl (Nat.le_of_ble_eq_true rfl) (by decide +kernel) (fun z hz => c_X12_drawn hz) (fun z147 => ?_)
      change Sim l G Y_L_law lim _ _ 941 [some (.inr (.inr 4000)), some (.inr (.inr x1)), some (.inr (.inr x2)), some (.inl x3)] [.inl z147.1, .inl z142.1] z147.2
      refine s_ic_eq (tgt := 1845) (off := 904) (by decide +kernel) (by decide) (fun h148 => ?_) (fun h148 => ?_)
      · skip
        refine s_run (b := [(.iinc 3 6, 3), (.goto (-1830), 3)]) 18 [some (.inr (.inr 4000)), some (.inr (.inr x1)), some (.inr (.inr x2)), some (.inl (x3 + (6 : Int32)))] [] (by decide +kernel) rfl ?_
        exact s_lsub (ls' := [some (.inr (.inr 4000)), some (.inr (.inr x1)), some (.inr (.inr x2)), some (.inl (x3 + (6 : Int32)))]) ⟨rfl, ⟨rfl, ⟨rfl, ⟨rfl, trivial⟩⟩⟩⟩ (kk1 (x3 + (6 : Int32)) z147.2)
      · skip
        exact s_none
    refine s_ite (fun h149 => ?_) (fun h149 => ?_)
    · refine s_tabIn (off := 913) (tgt := 946) (dflt := 1812) (lo := 0) (hi := 38) (offs := #[171, 234, 257, 290, 313, 346, 389, 422, 475, 544, 567, 627, 687, 740, 774, 817, 860, 913, 972, 1015, 1064, 1113, 1172, 1205, 1238, 1271, 1294, 1337, 1380, 1439, 1482, 1525, 1558, 1618, 1641, 1694, 1743, 1766, 1789]) (len := 171) (17 : Int32) (by decide +kernel) h149 rfl rfl rfl (by decide) ?_
      change Sim l G Y_L_law lim _ _ 946 [some (.inr (.inr 4000)), some (.inr (.inr x1)), some (.inr (.inr x2)), some (.inl x3)] [] M
      refine s_run (b := [(.aload_n 1, 1), (.aload_n 0, 1), (.iload_n 3, 1), (.iconst 1, 1), (.iadd, 1)]) 951 [some (.inr (.inr 4000)), some (.inr (.inr x1)), some (.inr (.inr x2)), some (.inl x3)] [.inl (x3 + (1 : Int32)), .inr (.inr 4000), .inr (.inr x1)] (by decide +kernel) rfl ?_
      refine s_sc (by decide +kernel) (fun v150 => ?_)
      refine s_run (b := [(.aload_n 0, 1), (.iload_n 3, 1), (.iconst 2, 1), (.iadd, 1)]) 956 [some (.inr (.inr 4000)), some (.inr (.inr x1)), some (.inr (.inr x2)), some (.inl x3)] [.inl (x3 + (2 : Int32)), .inr (.inr 4000), .inl v150, .inr (.inr x1)] (by decide +kernel) rfl ?_
      refine s_sc (by decide +kernel) (fun v151 => ?_)
      refine s_run (b := [(.aload_n 0, 1), (.iload_n 3, 1), (.iconst 3, 1), (.iadd, 1)]) 961 [some (.inr (.inr 4000)), some (.inr (.inr x1)), some (.inr (.inr x2)), some (.inl x3)] [.inl (x3 + (3 : Int32)), .inr (.inr 4000), .inl v151, .inl v150, .inr (.inr x1)] (by decide +kernel) rfl ?_
      refine s_sc (by decide +kernel) (fun v152 => ?_)
      refine s_if_eq (tgt := 969) (off := 7) (by decide +kernel) (by decide) (fun h153 => ?_) (fun h153 => ?_)
      · skip
        refine s_run (b := [(.iconst 0, 1)]) 970 [some (.inr (.inr 4000)), some (.inr (.inr x1)), some (.inr (.inr x2)), some (.inl x3)] [.inl (0 : Int32), .inl v151, .inl v150, .inr (.inr x1)] (by decide +kernel) rfl ?_
        exact s_lsub (ls' := [some (.inr (.inr 4000)), some (.inr (.inr x1)), some (.inr (.inr x2)), some (.inl x3)]) ⟨rfl, ⟨rfl, ⟨rfl, ⟨rfl, trivial⟩⟩⟩⟩ (J_L_law_970 M x1 x2 x3 x1 v150 v151 (0 : Int32) K kk1 kk2_0)
      · skip
        refine s_run (b := [(.iconst 1, 1), (.goto 4, 3)]) 970 [some (.inr (.inr 4000)), some (.inr (.inr x1)), some (.inr (.inr x2)), some (.inl x3)] [.inl (1 : Int32), .inl v151, .inl v150, .inr (.inr x1)] (by decide +kernel) rfl ?_
        exact s_lsub (ls' := [some (.inr (.inr 4000)), some (.inr (.inr x1)), some (.inr (.inr x2)), some (.inl x3)]) ⟨rfl, ⟨rfl, ⟨rfl, ⟨rfl, trivial⟩⟩⟩⟩ (J_L_law_970 M x1 x2 x3 x1 v150 v151 (1 : Int32) K kk1 kk2_0)
    refine s_ite (fun h154 => ?_) (fun h154 => ?_)
    · refine s_tabIn (off := 972) (tgt := 1005) (dflt := 1812) (lo := 0) (hi := 38) (offs := #[171, 234, 257, 290, 313, 346, 389, 422, 475, 544, 567, 627, 687, 740, 774, 817, 860, 913, 972, 1015, 1064, 1113, 1172, 1205, 1238, 1271, 1294, 1337, 1380, 1439, 1482, 1525, 1558, 1618, 1641, 1694, 1743, 1766, 1789]) (len := 171) (18 : Int32) (by decide +kernel) h154 rfl rfl rfl (by decide) ?_
      change Sim l G Y_L_law lim _ _ 1005 [some (.inr (.inr 4000)), some (.inr (.inr x1)), some (.inr (.inr x2)), some (.inl x3)] [] M
      refine s_run (b := [(.aload_n 1, 1), (.aload_n 0, 1), (.iload_n 3, 1), (.iconst 1, 1), (.iadd, 1)]) 1010 [some (.inr (.inr 4000)), some (.inr (.inr x1)), some (.inr (.inr x2)), some (.inl x3)] [.inl (x3 + (1 : Int32)), .inr (.inr 4000), .inr (.inr x1)] (by decide +kernel) rfl ?_
      refine s_sc (by decide +kernel) (fun v155 => ?_)
      refine s_run (b := [(.aload_n 0, 1), (.iload_n 3, 1), (.iconst 2, 1), (.iadd, 1)]) 1015 [some (.inr (.inr 4000)), some (.inr (.inr x1)), some (.inr (.inr x2)), some (.inl x3)] [.inl (x3 + (2 : Int32)), .inr (.inr 4000), .inl v155, .inr (.inr x1)] (by decide +kernel) rfl ?_
      refine s_sc (by decide +kernel) (fun v156 => ?_)
      refine s_run (b := [(.aload_n 0, 1), (.iload_n 3, 1), (.iconst 3, 1), (.iadd, 1)]) 1020 [some (.inr (.inr 4000)), some (.inr (.inr x1)), some (.inr (.inr x2)), some (.inl x3)] [.inl (x3 + (3 : Int32)), .inr (.inr 4000), .inl v156, .inl v155, .inr (.inr x1)] (by decide +kernel) rfl ?_
      refine s_sc (by decide +kernel) (fun v157 => ?_)
      refine s_cV (Z := Y_X11_rule) (c := 11) (vs := [.inl v155, .inl v156, .inl v157]) (st := []) (rO := fun z => some (.inl z.1)) (mO := fun z => z.2) zk_X11_rule zi_X11_rule q1066 rfl ⟨by decide, by decide⟩ ⟨rfl, rfl⟩ rfl rfl (Nat.le_of_ble_eq_true rfl) (by decide +kernel) (fun z hz => c_X11_rule hz) (fun z158 => ?_)
      change Sim l G Y_L_law lim _ _ 1024 [some (.inr (.inr 4000)), some (.inr (.inr x1)), some (.inr (.inr x2)), some (.inl x3)] [.inl z158.1] z158.2
      refine s_run (b := [(.aload_n 2, 1), (.aload_n 0, 1), (.iload_n 3, 1), (.iconst 1, 1), (.iadd, 1)]) 1029 [some (.inr (.inr 4000)), some (.inr (.inr x1)), some (.inr (.inr x2)), some (.inl x3)] [.inl (x3 + (1 : Int32)), .inr (.inr 4000), .inr (.inr x2), .inl z158.1] (by decide +kernel) rfl ?_
      refine s_sc (by decide +kernel) (fun v159 => ?_)
      refine s_run (b := [(.aload_n 0, 1), (.iload_n 3, 1), (.iconst 2, 1), (.iadd, 1)]) 1034 [some (.inr (.inr 4000)), some (.inr (.inr x1)), some (.inr (.inr x2)), some (.inl x3)] [.inl (x3 + (2 : Int32)), .inr (.inr 4000), .inl v159, .inr (.inr x2), .inl z158.1] (by decide +kernel) rfl ?_
      refine s_sc (by decide +kernel) (fun v160 => ?_)
      refine s_run (b := [(.aload_n 0, 1), (.iload_n 3, 1), (.iconst 3, 1), (.iadd, 1)]) 1039 [some (.inr (.inr 4000)), some (.inr (.inr x1)), some (.inr (.inr x2)), some (.inl x3)] [.inl (x3 + (3 : Int32)), .inr (.inr 4000), .inl v160, .inl v159, .inr (.inr x2), .inl z158.1] (by decide +kernel) rfl ?_
      refine s_sc (by decide +kernel) (fun v161 => ?_)
      refine s_cV (Z := Y_X12_rule) (c := 12) (vs := [.inl v159, .inl v160, .inl v161]) (st := [.inl z158.1]) (rO := fun z => some (.inl z.1)) (mO := fun z => z.2) zk_X12_rule zi_X12_rule q1779 rfl ⟨by decide, by decide⟩ ⟨rfl, rfl⟩ rfl rfl (Nat.le_of_ble_eq_true rfl) (by decide +kernel) (fun z hz => c_X12_rule hz) (fun z162 => ?_)
      change Sim l G Y_L_law lim _ _ 1043 [some (.inr (.inr 4000)), some (.inr (.inr x1)), some (.inr (.inr x2)), some (.inl x3)] [.inl z162.1, .inl z158.1] z162.2
      refine s_ic_eq (tgt := 1845) (off := 802) (by decide +kernel) (by decide) (fun h163 => ?_) (fun h163 => ?_)
      · skip
        refine s_run (b := [(.iinc 3 6, 3), (.goto (-1830), 3)]) 18 [some (.inr (.inr 4000)), some (.inr (.inr x1)), some (.inr (.inr x2)), some (.inl (x3 + (6 : Int32)))] [] (by decide +kernel) rfl ?_
        exact s_lsub (ls' := [some (.inr (.inr 4000)), some (.inr (.inr x1)), some (.inr (.inr x2)), some (.inl (x3 + (6 : Int32)))]) ⟨rfl, ⟨rfl, ⟨rfl, ⟨rfl, trivial⟩⟩⟩⟩ (kk1 (x3 + (6 : Int32)) z162.2)
      · skip
        exact s_none
    refine s_ite (fun h164 => ?_) (fun h164 => ?_)
    · refine s_tabIn (off := 1015) (tgt := 1048) (dflt := 1812) (lo := 0) (hi := 38) (offs := #[171, 234, 257, 290, 313, 346, 389, 422, 475, 544, 567, 627, 687, 740, 774, 817, 860, 913, 972, 1015, 1064, 1113, 1172, 1205, 1238, 1271, 1294, 1337, 1380, 1439, 1482, 1525, 1558, 1618, 1641, 1694, 1743, 1766, 1789]) (len := 171) (19 : Int32) (by decide +kernel) h164 rfl rfl rfl (by decide) ?_
      change Sim l G Y_L_law lim _ _ 1048 [some (.inr (.inr 4000)), some (.inr (.inr x1)), some (.inr (.inr x2)), some (.inl x3)] [] M
      refine s_run (b := [(.aload_n 1, 1), (.aload_n 0, 1), (.iload_n 3, 1), (.iconst 1, 1), (.iadd, 1)]) 1053 [some (.inr (.inr 4000)), some (.inr (.inr x1)), some (.inr (.inr x2)), some (.inl x3)] [.inl (x3 + (1 : Int32)), .inr (.inr 4000), .inr (.inr x1)] (by decide +kernel) rfl ?_
      refine s_sc (by decide +kernel) (fun v165 => ?_)
      refine s_run (b := [(.aload_n 0, 1), (.iload_n 3, 1), (.iconst 2, 1), (.iadd, 1)]) 1058 [some (.inr (.inr 4000)), some (.inr (.inr x1)), some (.inr (.inr x2)), some (.inl x3)] [.inl (x3 + (2 : Int32)), .inr (.inr 4000), .inl v165, .inr (.inr x1)] (by decide +kernel) rfl ?_
      refine s_sc (by decide +kernel) (fun v166 => ?_)
      refine s_if_eq (tgt := 1066) (off := 7) (by decide +kernel) (by decide) (fun h167 => ?_) (fun h167 => ?_)
      · skip
        refine s_run (b := [(.iconst 0, 1)]) 1067 [some (.inr (.inr 4000)), some (.inr (.inr x1)), some (.inr (.inr x2)), some (.inl x3)] [.inl (0 : Int32), .inl v165, .inr (.inr x1)] (by decide +kernel) rfl ?_
        exact s_lsub (ls' := [some (.inr (.inr 4000)), some (.inr (.inr x1)), some (.inr (.inr x2)), some (.inl x3)]) ⟨rfl, ⟨rfl, ⟨rfl, ⟨rfl, trivial⟩⟩⟩⟩ (J_L_law_1067 M x1 x2 x3 x1 v165 (0 : Int32) K kk1 kk2_0)
      · skip
        refine s_run (b := [(.iconst 1, 1), (.goto 4, 3)]) 1067 [some (.inr (.inr 4000)), some (.inr (.inr x1)), some (.inr (.inr x2)), some (.inl x3)] [.inl (1 : Int32), .inl v165, .inr (.inr x1)] (by decide +kernel) rfl ?_
        exact s_lsub (ls' := [some (.inr (.inr 4000)), some (.inr (.inr x1)), some (.inr (.inr x2)), some (.inl x3)]) ⟨rfl, ⟨rfl, ⟨rfl, ⟨rfl, trivial⟩⟩⟩⟩ (J_L_law_1067 M x1 x2 x3 x1 v165 (1 : Int32) K kk1 kk2_0)
    refine s_ite (fun h168 => ?_) (fun h168 => ?_)
    · refine s_tabIn (off := 1064) (tgt := 1097) (dflt := 1812) (lo := 0) (hi := 38) (offs := #[171, 234, 257, 290, 313, 346, 389, 422, 475, 544, 567, 627, 687, 740, 774, 817, 860, 913, 972, 1015, 1064, 1113, 1172, 1205, 1238, 1271, 1294, 1337, 1380, 1439, 1482, 1525, 1558, 1618, 1641, 1694, 1743, 1766, 1789]) (len := 171) (20 : Int32) (by decide +kernel) h168 rfl rfl rfl (by decide) ?_
      change Sim l G Y_L_law lim _ _ 1097 [some (.inr (.inr 4000)), some (.inr (.inr x1)), some (.inr (.inr x2)), some (.inl x3)] [] M
      refine s_run (b := [(.aload_n 1, 1), (.aload_n 0, 1), (.iload_n 3, 1), (.iconst 1, 1), (.iadd, 1)]) 1102 [some (.inr (.inr 4000)), some (.inr (.inr x1)), some (.inr (.inr x2)), some (.inl x3)] [.inl (x3 + (1 : Int32)), .inr (.inr 4000), .inr (.inr x1)] (by decide +kernel) rfl ?_
      refine s_sc (by decide +kernel) (fun v169 => ?_)
      refine s_run (b := [(.aload_n 0, 1), (.iload_n 3, 1), (.iconst 2, 1), (.iadd, 1)]) 1107 [some (.inr (.inr 4000)), some (.inr (.inr x1)), some (.inr (.inr x2)), some (.inl x3)] [.inl (x3 + (2 : Int32)), .inr (.inr 4000), .inl v169, .inr (.inr x1)] (by decide +kernel) rfl ?_
      refine s_sc (by decide +kernel) (fun v170 => ?_)
      refine s_if_eq (tgt := 1115) (off := 7) (by decide +kernel) (by decide) (fun h171 => ?_) (fun h171 => ?_)
      · skip
        refine s_run (b := [(.iconst 0, 1)]) 1116 [some (.inr (.inr 4000)), some (.inr (.inr x1)), some (.inr (.inr x2)), some (.inl x3)] [.inl (0 : Int32), .inl v169, .inr (.inr x1)] (by decide +kernel) rfl ?_
        exact s_lsub (ls' := [some (.inr (.inr 4000)), some (.inr (.inr x1)), some (.inr (.inr x2)), some (.inl x3)]) ⟨rfl, ⟨rfl, ⟨rfl, ⟨rfl, trivial⟩⟩⟩⟩ (J_L_law_1116 M x1 x2 x3 x1 v169 (0 : Int32) K kk1 kk2_0)
      · skip
        refine s_run (b := [(.iconst 1, 1), (.goto 4, 3)]) 1116 [some (.inr (.inr 4000)), some (.inr (.inr x1)), some (.inr (.inr x2)), some (.inl x3)] [.inl (1 : Int32), .inl v169, .inr (.inr x1)] (by decide +kernel) rfl ?_
        exact s_lsub (ls' := [some (.inr (.inr 4000)), some (.inr (.inr x1)), some (.inr (.inr x2)), some (.inl x3)]) ⟨rfl, ⟨rfl, ⟨rfl, ⟨rfl, trivial⟩⟩⟩⟩ (J_L_law_1116 M x1 x2 x3 x1 v169 (1 : Int32) K kk1 kk2_0)
    refine s_ite (fun h172 => ?_) (fun h172 => ?_)
    · refine s_tabIn (off := 1113) (tgt := 1146) (dflt := 1812) (lo := 0) (hi := 38) (offs := #[171, 234, 257, 290, 313, 346, 389, 422, 475, 544, 567, 627, 687, 740, 774, 817, 860, 913, 972, 1015, 1064, 1113, 1172, 1205, 1238, 1271, 1294, 1337, 1380, 1439, 1482, 1525, 1558, 1618, 1641, 1694, 1743, 1766, 1789]) (len := 171) (21 : Int32) (by decide +kernel) h172 rfl rfl rfl (by decide) ?_
      change Sim l G Y_L_law lim _ _ 1146 [some (.inr (.inr 4000)), some (.inr (.inr x1)), some (.inr (.inr x2)), some (.inl x3)] [] M
      refine s_run (b := [(.aload_n 1, 1), (.aload_n 0, 1), (.iload_n 3, 1), (.iconst 1, 1), (.iadd, 1)]) 1151 [some (.inr (.inr 4000)), some (.inr (.inr x1)), some (.inr (.inr x2)), some (.inl x3)] [.inl (x3 + (1 : Int32)), .inr (.inr 4000), .inr (.inr x1)] (by decide +kernel) rfl ?_
      refine s_sc (by decide +kernel) (fun v173 => ?_)
      refine s_run (b := [(.aload_n 0, 1), (.iload_n 3, 1), (.iconst 2, 1), (.iadd, 1)]) 1156 [some (.inr (.inr 4000)), some (.inr (.inr x1)), some (.inr (.inr x2)), some (.inl x3)] [.inl (x3 + (2 : Int32)), .inr (.inr 4000), .inl v173, .inr (.inr x1)] (by decide +kernel) rfl ?_
      refine s_sc (by decide +kernel) (fun v174 => ?_)
      refine s_run (b := [(.aload_n 0, 1), (.iload_n 3, 1), (.iconst 3, 1), (.iadd, 1)]) 1161 [some (.inr (.inr 4000)), some (.inr (.inr x1)), some (.inr (.inr x2)), some (.inl x3)] [.inl (x3 + (3 : Int32)), .inr (.inr 4000), .inl v174, .inl v173, .inr (.inr x1)] (by decide +kernel) rfl ?_
      refine s_sc (by decide +kernel) (fun v175 => ?_)
      refine s_if_eq (tgt := 1169) (off := 7) (by decide +kernel) (by decide) (fun h176 => ?_) (fun h176 => ?_)
      · skip
        refine s_run (b := [(.iconst 0, 1)]) 1170 [some (.inr (.inr 4000)), some (.inr (.inr x1)), some (.inr (.inr x2)), some (.inl x3)] [.inl (0 : Int32), .inl v174, .inl v173, .inr (.inr x1)] (by decide +kernel) rfl ?_
        exact s_lsub (ls' := [some (.inr (.inr 4000)), some (.inr (.inr x1)), some (.inr (.inr x2)), some (.inl x3)]) ⟨rfl, ⟨rfl, ⟨rfl, ⟨rfl, trivial⟩⟩⟩⟩ (J_L_law_1170 M x1 x2 x3 x1 v173 v174 (0 : Int32) K kk1 kk2_0)
      · skip
        refine s_run (b := [(.iconst 1, 1), (.goto 4, 3)]) 1170 [some (.inr (.inr 4000)), some (.inr (.inr x1)), some (.inr (.inr x2)), some (.inl x3)] [.inl (1 : Int32), .inl v174, .inl v173, .inr (.inr x1)] (by decide +kernel) rfl ?_
        exact s_lsub (ls' := [some (.inr (.inr 4000)), some (.inr (.inr x1)), some (.inr (.inr x2)), some (.inl x3)]) ⟨rfl, ⟨rfl, ⟨rfl, ⟨rfl, trivial⟩⟩⟩⟩ (J_L_law_1170 M x1 x2 x3 x1 v173 v174 (1 : Int32) K kk1 kk2_0)
    refine s_ite (fun h177 => ?_) (fun h177 => ?_)
    · refine s_tabIn (off := 1172) (tgt := 1205) (dflt := 1812) (lo := 0) (hi := 38) (offs := #[171, 234, 257, 290, 313, 346, 389, 422, 475, 544, 567, 627, 687, 740, 774, 817, 860, 913, 972, 1015, 1064, 1113, 1172, 1205, 1238, 1271, 1294, 1337, 1380, 1439, 1482, 1525, 1558, 1618, 1641, 1694, 1743, 1766, 1789]) (len := 171) (22 : Int32) (by decide +kernel) h177 rfl rfl rfl (by decide) ?_
      change Sim l G Y_L_law lim _ _ 1205 [some (.inr (.inr 4000)), some (.inr (.inr x1)), some (.inr (.inr x2)), some (.inl x3)] [] M
      refine s_run (b := [(.aload_n 1, 1), (.aload_n 0, 1), (.iload_n 3, 1), (.iconst 1, 1), (.iadd, 1)]) 1210 [some (.inr (.inr 4000)), some (.inr (.inr x1)), some (.inr (.inr x2)), some (.inl x3)] [.inl (x3 + (1 : Int32)), .inr (.inr 4000), .inr (.inr x1)] (by decide +kernel) rfl ?_
      refine s_sc (by decide +kernel) (fun v178 => ?_)
      refine s_run (b := [(.aload_n 0, 1), (.iload_n 3, 1), (.iconst 2, 1), (.iadd, 1)]) 1215 [some (.inr (.inr 4000)), some (.inr (.inr x1)), some (.inr (.inr x2)), some (.inl x3)] [.inl (x3 + (2 : Int32)), .inr (.inr 4000), .inl v178, .inr (.inr x1)] (by decide +kernel) rfl ?_
      refine s_sc (by decide +kernel) (fun v179 => ?_)
      refine s_cV (Z := Y_X11_quiet) (c := 11) (vs := [.inl v178, .inl v179]) (st := []) (rO := fun z => some (.inl z)) (mO := fun _ => M) zk_X11_quiet zi_X11_quiet q1141 rfl ⟨by decide, by decide⟩ ⟨rfl, rfl⟩ rfl rfl (Nat.le_of_ble_eq_true rfl) (by decide +kernel) (fun z hz => c_X11_quiet hz) (fun v180 => ?_)
      change Sim l G Y_L_law lim _ _ 1219 [some (.inr (.inr 4000)), some (.inr (.inr x1)), some (.inr (.inr x2)), some (.inl x3)] [.inl v180] M
      refine s_run (b := [(.aload_n 2, 1), (.aload_n 0, 1), (.iload_n 3, 1), (.iconst 1, 1), (.iadd, 1)]) 1224 [some (.inr (.inr 4000)), some (.inr (.inr x1)), some (.inr (.inr x2)), some (.inl x3)] [.inl (x3 + (1 : Int32)), .inr (.inr 4000), .inr (.inr x2), .inl v180] (by decide +kernel) rfl ?_
      refine s_sc (by decide +kernel) (fun v181 => ?_)
      refine s_run (b := [(.aload_n 0, 1), (.iload_n 3, 1), (.iconst 2, 1), (.iadd, 1)]) 1229 [some (.inr (.inr 4000)), some (.inr (.inr x1)), some (.inr (.inr x2)), some (.inl x3)] [.inl (x3 + (2 : Int32)), .inr (.inr 4000), .inl v181, .inr (.inr x2), .inl v180] (by decide +kernel) rfl ?_
      refine s_sc (by decide +kernel) (fun v182 => ?_)
      refine s_cV (Z := Y_X12_quiet) (c := 12) (vs := [.inl v181, .inl v182]) (st := [.inl v180]) (rO := fun z => some (.inl z.1)) (mO := fun z => z.2) zk_X12_quiet zi_X12_quiet q1846 rfl ⟨by decide, by decide⟩ ⟨rfl, rfl⟩ rfl rfl (Nat.le_of_ble_eq_true rfl) (by decide +kernel) (fun z hz => c_X12_quiet hz) (fun z183 => ?_)
      change Sim l G Y_L_law lim _ _ 1233 [some (.inr (.inr 4000)), some (.inr (.inr x1)), some (.inr (.inr x2)), some (.inl x3)] [.inl z183.1, .inl v180] z183.2
      refine s_ic_eq (tgt := 1845) (off := 612) (by decide +kernel) (by decide) (fun h184 => ?_) (fun h184 => ?_)
      · skip
        refine s_run (b := [(.iinc 3 6, 3), (.goto (-1830), 3)]) 18 [some (.inr (.inr 4000)), some (.inr (.inr x1)), some (.inr (.inr x2)), some (.inl (x3 + (6 : Int32)))] [] (by decide +kernel) rfl ?_
        exact s_lsub (ls' := [some (.inr (.inr 4000)), some (.inr (.inr x1)), some (.inr (.inr x2)), some (.inl (x3 + (6 : Int32)))]) ⟨rfl, ⟨rfl, ⟨rfl, ⟨rfl, trivial⟩⟩⟩⟩ (kk1 (x3 + (6 : Int32)) z183.2)
      · skip
        exact s_none
    refine s_ite (fun h185 => ?_) (fun h185 => ?_)
    · refine s_tabIn (off := 1205) (tgt := 1238) (dflt := 1812) (lo := 0) (hi := 38) (offs := #[171, 234, 257, 290, 313, 346, 389, 422, 475, 544, 567, 627, 687, 740, 774, 817, 860, 913, 972, 1015, 1064, 1113, 1172, 1205, 1238, 1271, 1294, 1337, 1380, 1439, 1482, 1525, 1558, 1618, 1641, 1694, 1743, 1766, 1789]) (len := 171) (23 : Int32) (by decide +kernel) h185 rfl rfl rfl (by decide) ?_
      change Sim l G Y_L_law lim _ _ 1238 [some (.inr (.inr 4000)), some (.inr (.inr x1)), some (.inr (.inr x2)), some (.inl x3)] [] M
      refine s_run (b := [(.aload_n 1, 1), (.aload_n 0, 1), (.iload_n 3, 1), (.iconst 1, 1), (.iadd, 1)]) 1243 [some (.inr (.inr 4000)), some (.inr (.inr x1)), some (.inr (.inr x2)), some (.inl x3)] [.inl (x3 + (1 : Int32)), .inr (.inr 4000), .inr (.inr x1)] (by decide +kernel) rfl ?_
      refine s_sc (by decide +kernel) (fun v186 => ?_)
      refine s_run (b := [(.aload_n 0, 1), (.iload_n 3, 1), (.iconst 2, 1), (.iadd, 1)]) 1248 [some (.inr (.inr 4000)), some (.inr (.inr x1)), some (.inr (.inr x2)), some (.inl x3)] [.inl (x3 + (2 : Int32)), .inr (.inr 4000), .inl v186, .inr (.inr x1)] (by decide +kernel) rfl ?_
      refine s_sc (by decide +kernel) (fun v187 => ?_)
      refine s_cV (Z := Y_X11_given) (c := 11) (vs := [.inl v186, .inl v187]) (st := []) (rO := fun z => some (.inl z.1)) (mO := fun z => z.2) zk_X11_given zi_X11_given q1151 rfl ⟨by decide, by decide⟩ ⟨rfl, rfl⟩ rfl rfl (Nat.le_of_ble_eq_true rfl) (by decide +kernel) (fun z hz => c_X11_given hz) (fun z188 => ?_)
      change Sim l G Y_L_law lim _ _ 1252 [some (.inr (.inr 4000)), some (.inr (.inr x1)), some (.inr (.inr x2)), some (.inl x3)] [.inl z188.1] z188.2
      refine s_run (b := [(.aload_n 2, 1), (.aload_n 0, 1), (.iload_n 3, 1), (.iconst 1, 1), (.iadd, 1)]) 1257 [some (.inr (.inr 4000)), some (.inr (.inr x1)), some (.inr (.inr x2)), some (.inl x3)] [.inl (x3 + (1 : Int32)), .inr (.inr 4000), .inr (.inr x2), .inl z188.1] (by decide +kernel) rfl ?_
      refine s_sc (by decide +kernel) (fun v189 => ?_)
      refine s_run (b := [(.aload_n 0, 1), (.iload_n 3, 1), (.iconst 2, 1), (.iadd, 1)]) 1262 [some (.inr (.inr 4000)), some (.inr (.inr x1)), some (.inr (.inr x2)), some (.inl x3)] [.inl (x3 + (2 : Int32)), .inr (.inr 4000), .inl v189, .inr (.inr x2), .inl z188.1] (by decide +kernel) rfl ?_
      refine s_sc (by decide +kernel) (fun v190 => ?_)
      refine s_cV (Z := Y_X12_given) (c := 12) (vs := [.inl v189, .inl v190]) (st := [.inl z188.1]) (rO := fun z => some (.inl z.1)) (mO := fun z => z.2) zk_X12_given zi_X12_given q1850 rfl ⟨by decide, by decide⟩ ⟨rfl, rfl⟩ rfl rfl (Nat.le_of_ble_eq_true rfl) (by decide +kernel) (fun z hz => c_X12_given hz) (fun z191 => ?_)
      change Sim l G Y_L_law lim _ _ 1266 [some (.inr (.inr 4000)), some (.inr (.inr x1)), some (.inr (.inr x2)), some (.inl x3)] [.inl z191.1, .inl z188.1] z191.2
      refine s_ic_eq (tgt := 1845) (off := 579) (by decide +kernel) (by decide) (fun h192 => ?_) (fun h192 => ?_)
      · skip
        refine s_run (b := [(.iinc 3 6, 3), (.goto (-1830), 3)]) 18 [some (.inr (.inr 4000)), some (.inr (.inr x1)), some (.inr (.inr x2)), some (.inl (x3 + (6 : Int32)))] [] (by decide +kernel) rfl ?_
        exact s_lsub (ls' := [some (.inr (.inr 4000)), some (.inr (.inr x1)), some (.inr (.inr x2)), some (.inl (x3 + (6 : Int32)))]) ⟨rfl, ⟨rfl, ⟨rfl, ⟨rfl, trivial⟩⟩⟩⟩ (kk1 (x3 + (6 : Int32)) z191.2)
      · skip
        exact s_none
    refine s_ite (fun h193 => ?_) (fun h193 => ?_)
    · refine s_tabIn (off := 1238) (tgt := 1271) (dflt := 1812) (lo := 0) (hi := 38) (offs := #[171, 234, 257, 290, 313, 346, 389, 422, 475, 544, 567, 627, 687, 740, 774, 817, 860, 913, 972, 1015, 1064, 1113, 1172, 1205, 1238, 1271, 1294, 1337, 1380, 1439, 1482, 1525, 1558, 1618, 1641, 1694, 1743, 1766, 1789]) (len := 171) (24 : Int32) (by decide +kernel) h193 rfl rfl rfl (by decide) ?_
      change Sim l G Y_L_law lim _ _ 1271 [some (.inr (.inr 4000)), some (.inr (.inr x1)), some (.inr (.inr x2)), some (.inl x3)] [] M
      refine s_run (b := [(.aload_n 1, 1), (.aload_n 0, 1), (.iload_n 3, 1), (.iconst 1, 1), (.iadd, 1)]) 1276 [some (.inr (.inr 4000)), some (.inr (.inr x1)), some (.inr (.inr x2)), some (.inl x3)] [.inl (x3 + (1 : Int32)), .inr (.inr 4000), .inr (.inr x1)] (by decide +kernel) rfl ?_
      refine s_sc (by decide +kernel) (fun v194 => ?_)
      refine s_run (b := [(.aload_n 0, 1), (.iload_n 3, 1), (.iconst 2, 1), (.iadd, 1)]) 1281 [some (.inr (.inr 4000)), some (.inr (.inr x1)), some (.inr (.inr x2)), some (.inl x3)] [.inl (x3 + (2 : Int32)), .inr (.inr 4000), .inl v194, .inr (.inr x1)] (by decide +kernel) rfl ?_
      refine s_sc (by decide +kernel) (fun v195 => ?_)
      refine s_cV (Z := Y_X11_curve) (c := 11) (vs := [.inl v194, .inl v195]) (st := []) (rO := fun z => some (.inl z)) (mO := fun _ => M) zk_X11_curve zi_X11_curve q1175 rfl ⟨by decide, by decide⟩ ⟨rfl, rfl⟩ rfl rfl (Nat.le_of_ble_eq_true rfl) (by decide +kernel) (fun z hz => c_X11_curve hz) (fun v196 => ?_)
      change Sim l G Y_L_law lim _ _ 1285 [some (.inr (.inr 4000)), some (.inr (.inr x1)), some (.inr (.inr x2)), some (.inl x3)] [.inl v196] M
      refine s_run (b := [(.aload_n 2, 1), (.aload_n 0, 1), (.iload_n 3, 1), (.iconst 1, 1), (.iadd, 1)]) 1290 [some (.inr (.inr 4000)), some (.inr (.inr x1)), some (.inr (.inr x2)), some (.inl x3)] [.inl (x3 + (1 : Int32)), .inr (.inr 4000), .inr (.inr x2), .inl v196] (by decide +kernel) rfl ?_
      refine s_sc (by decide +kernel) (fun v197 => ?_)
      refine s_run (b := [(.aload_n 0, 1), (.iload_n 3, 1), (.iconst 2, 1), (.iadd, 1)]) 1295 [some (.inr (.inr 4000)), some (.inr (.inr x1)), some (.inr (.inr x2)), some (.inl x3)] [.inl (x3 + (2 : Int32)), .inr (.inr 4000), .inl v197, .inr (.inr x2), .inl v196] (by decide +kernel) rfl ?_
      refine s_sc (by decide +kernel) (fun v198 => ?_)
      refine s_cV (Z := Y_X12_curve) (c := 12) (vs := [.inl v197, .inl v198]) (st := [.inl v196]) (rO := fun z => some (.inl z.1)) (mO := fun z => z.2) zk_X12_curve zi_X12_curve q1862 rfl ⟨by decide, by decide⟩ ⟨rfl, rfl⟩ rfl rfl (Nat.le_of_ble_eq_true rfl) (by decide +kernel) (fun z hz => c_X12_curve hz) (fun z199 => ?_)
      change Sim l G Y_L_law lim _ _ 1299 [some (.inr (.inr 4000)), some (.inr (.inr x1)), some (.inr (.inr x2)), some (.inl x3)] [.inl z199.1, .inl v196] z199.2
      refine s_ic_eq (tgt := 1845) (off := 546) (by decide +kernel) (by decide) (fun h200 => ?_) (fun h200 => ?_)
      · skip
        refine s_run (b := [(.iinc 3 6, 3), (.goto (-1830), 3)]) 18 [some (.inr (.inr 4000)), some (.inr (.inr x1)), some (.inr (.inr x2)), some (.inl (x3 + (6 : Int32)))] [] (by decide +kernel) rfl ?_
        exact s_lsub (ls' := [some (.inr (.inr 4000)), some (.inr (.inr x1)), some (.inr (.inr x2)), some (.inl (x3 + (6 : Int32)))]) ⟨rfl, ⟨rfl, ⟨rfl, ⟨rfl, trivial⟩⟩⟩⟩ (kk1 (x3 + (6 : Int32)) z199.2)
      · skip
        exact s_none
    refine s_ite (fun h201 => ?_) (fun h201 => ?_)
    · refine s_tabIn (off := 1271) (tgt := 1304) (dflt := 1812) (lo := 0) (hi := 38) (offs := #[171, 234, 257, 290, 313, 346, 389, 422, 475, 544, 567, 627, 687, 740, 774, 817, 860, 913, 972, 1015, 1064, 1113, 1172, 1205, 1238, 1271, 1294, 1337, 1380, 1439, 1482, 1525, 1558, 1618, 1641, 1694, 1743, 1766, 1789]) (len := 171) (25 : Int32) (by decide +kernel) h201 rfl rfl rfl (by decide) ?_
      change Sim l G Y_L_law lim _ _ 1304 [some (.inr (.inr 4000)), some (.inr (.inr x1)), some (.inr (.inr x2)), some (.inl x3)] [] M
      refine s_run (b := [(.aload_n 1, 1), (.aload_n 0, 1), (.iload_n 3, 1), (.iconst 1, 1), (.iadd, 1)]) 1309 [some (.inr (.inr 4000)), some (.inr (.inr x1)), some (.inr (.inr x2)), some (.inl x3)] [.inl (x3 + (1 : Int32)), .inr (.inr 4000), .inr (.inr x1)] (by decide +kernel) rfl ?_
      refine s_sc (by decide +kernel) (fun v202 => ?_)
      refine s_cV (Z := Y_X11_ears) (c := 11) (vs := [.inl v202]) (st := []) (rO := fun z => some (.inl z)) (mO := fun _ => M) zk_X11_ears zi_X11_ears q1180 rfl ⟨by decide, by decide⟩ ⟨rfl, rfl⟩ rfl rfl (Nat.le_of_ble_eq_true rfl) (by decide +kernel) (fun z hz => c_X11_ears hz) (fun v203 => ?_)
      change Sim l G Y_L_law lim _ _ 1313 [some (.inr (.inr 4000)), some (.inr (.inr x1)), some (.inr (.inr x2)), some (.inl x3)] [.inl v203] M
      refine s_run (b := [(.aload_n 2, 1), (.aload_n 0, 1), (.iload_n 3, 1), (.iconst 1, 1), (.iadd, 1)]) 1318 [some (.inr (.inr 4000)), some (.inr (.inr x1)), some (.inr (.inr x2)), some (.inl x3)] [.inl (x3 + (1 : Int32)), .inr (.inr 4000), .inr (.inr x2), .inl v203] (by decide +kernel) rfl ?_
      refine s_sc (by decide +kernel) (fun v204 => ?_)
      refine s_cV (Z := Y_X12_ears) (c := 12) (vs := [.inl v204]) (st := [.inl v203]) (rO := fun z => some (.inl z.1)) (mO := fun z => z.2) zk_X12_ears zi_X12_ears q1866 rfl ⟨by decide, by decide⟩ ⟨rfl, rfl⟩ rfl rfl (Nat.le_of_ble_eq_true rfl) (by decide +kernel) (fun z hz => c_X12_ears hz) (fun z205 => ?_)
      change Sim l G Y_L_law lim _ _ 1322 [some (.inr (.inr 4000)), some (.inr (.inr x1)), some (.inr (.inr x2)), some (.inl x3)] [.inl z205.1, .inl v203] z205.2
      refine s_ic_eq (tgt := 1845) (off := 523) (by decide +kernel) (by decide) (fun h206 => ?_) (fun h206 => ?_)
      · skip
        refine s_run (b := [(.iinc 3 6, 3), (.goto (-1830), 3)]) 18 [some (.inr (.inr 4000)), some (.inr (.inr x1)), some (.inr (.inr x2)), some (.inl (x3 + (6 : Int32)))] [] (by decide +kernel) rfl ?_
        exact s_lsub (ls' := [some (.inr (.inr 4000)), some (.inr (.inr x1)), some (.inr (.inr x2)), some (.inl (x3 + (6 : Int32)))]) ⟨rfl, ⟨rfl, ⟨rfl, ⟨rfl, trivial⟩⟩⟩⟩ (kk1 (x3 + (6 : Int32)) z205.2)
      · skip
        exact s_none
    refine s_ite (fun h207 => ?_) (fun h207 => ?_)
    · refine s_tabIn (off := 1294) (tgt := 1327) (dflt := 1812) (lo := 0) (hi := 38) (offs := #[171, 234, 257, 290, 313, 346, 389, 422, 475, 544, 567, 627, 687, 740, 774, 817, 860, 913, 972, 1015, 1064, 1113, 1172, 1205, 1238, 1271, 1294, 1337, 1380, 1439, 1482, 1525, 1558, 1618, 1641, 1694, 1743, 1766, 1789]) (len := 171) (26 : Int32) (by decide +kernel) h207 rfl rfl rfl (by decide) ?_
      change Sim l G Y_L_law lim _ _ 1327 [some (.inr (.inr 4000)), some (.inr (.inr x1)), some (.inr (.inr x2)), some (.inl x3)] [] M
      refine s_run (b := [(.aload_n 1, 1), (.aload_n 0, 1), (.iload_n 3, 1), (.iconst 1, 1), (.iadd, 1)]) 1332 [some (.inr (.inr 4000)), some (.inr (.inr x1)), some (.inr (.inr x2)), some (.inl x3)] [.inl (x3 + (1 : Int32)), .inr (.inr 4000), .inr (.inr x1)] (by decide +kernel) rfl ?_
      refine s_sc (by decide +kernel) (fun v208 => ?_)
      refine s_run (b := [(.aload_n 0, 1), (.iload_n 3, 1), (.iconst 2, 1), (.iadd, 1)]) 1337 [some (.inr (.inr 4000)), some (.inr (.inr x1)), some (.inr (.inr x2)), some (.inl x3)] [.inl (x3 + (2 : Int32)), .inr (.inr 4000), .inl v208, .inr (.inr x1)] (by decide +kernel) rfl ?_
      refine s_sc (by decide +kernel) (fun v209 => ?_)
      refine s_run (b := [(.aload_n 0, 1), (.iload_n 3, 1), (.iconst 3, 1), (.iadd, 1)]) 1342 [some (.inr (.inr 4000)), some (.inr (.inr x1)), some (.inr (.inr x2)), some (.inl x3)] [.inl (x3 + (3 : Int32)), .inr (.inr 4000), .inl v209, .inl v208, .inr (.inr x1)] (by decide +kernel) rfl ?_
      refine s_sc (by decide +kernel) (fun v210 => ?_)
      refine s_cV (Z := Y_X11_order) (c := 11) (vs := [.inl v208, .inl v209, .inl v210]) (st := []) (rO := fun z => some (.inl z.1)) (mO := fun z => z.2) zk_X11_order zi_X11_order q1190 rfl ⟨by decide, by decide⟩ ⟨rfl, rfl⟩ rfl rfl (Nat.le_of_ble_eq_true rfl) (by decide +kernel) (fun z hz => c_X11_order hz) (fun z211 => ?_)
      change Sim l G Y_L_law lim _ _ 1346 [some (.inr (.inr 4000)), some (.inr (.inr x1)), some (.inr (.inr x2)), some (.inl x3)] [.inl z211.1] z211.2
      refine s_run (b := [(.aload_n 2, 1), (.aload_n 0, 1), (.iload_n 3, 1), (.iconst 1, 1), (.iadd, 1)]) 1351 [some (.inr (.inr 4000)), some (.inr (.inr x1)), some (.inr (.inr x2)), some (.inl x3)] [.inl (x3 + (1 : Int32)), .inr (.inr 4000), .inr (.inr x2), .inl z211.1] (by decide +kernel) rfl ?_
      refine s_sc (by decide +kernel) (fun v212 => ?_)
      refine s_run (b := [(.aload_n 0, 1), (.iload_n 3, 1), (.iconst 2, 1), (.iadd, 1)]) 1356 [some (.inr (.inr 4000)), some (.inr (.inr x1)), some (.inr (.inr x2)), some (.inl x3)] [.inl (x3 + (2 : Int32)), .inr (.inr 4000), .inl v212, .inr (.inr x2), .inl z211.1] (by decide +kernel) rfl ?_
      refine s_sc (by decide +kernel) (fun v213 => ?_)
      refine s_run (b := [(.aload_n 0, 1), (.iload_n 3, 1), (.iconst 3, 1), (.iadd, 1)]) 1361 [some (.inr (.inr 4000)), some (.inr (.inr x1)), some (.inr (.inr x2)), some (.inl x3)] [.inl (x3 + (3 : Int32)), .inr (.inr 4000), .inl v213, .inl v212, .inr (.inr x2), .inl z211.1] (by decide +kernel) rfl ?_
      refine s_sc (by decide +kernel) (fun v214 => ?_)
      refine s_cV (Z := Y_X12_order) (c := 12) (vs := [.inl v212, .inl v213, .inl v214]) (st := [.inl z211.1]) (rO := fun z => some (.inl z.1)) (mO := fun z => z.2) zk_X12_order zi_X12_order q1811 rfl ⟨by decide, by decide⟩ ⟨rfl, rfl⟩ rfl rfl (Nat.le_of_ble_eq_true rfl) (by decide +kernel) (fun z hz => c_X12_order hz) (fun z215 => ?_)
      change Sim l G Y_L_law lim _ _ 1365 [some (.inr (.inr 4000)), some (.inr (.inr x1)), some (.inr (.inr x2)), some (.inl x3)] [.inl z215.1, .inl z211.1] z215.2
      refine s_ic_eq (tgt := 1845) (off := 480) (by decide +kernel) (by decide) (fun h216 => ?_) (fun h216 => ?_)
      · skip
        refine s_run (b := [(.iinc 3 6, 3), (.goto (-1830), 3)]) 18 [some (.inr (.inr 4000)), some (.inr (.inr x1)), some (.inr (.inr x2)), some (.inl (x3 + (6 : Int32)))] [] (by decide +kernel) rfl ?_
        exact s_lsub (ls' := [some (.inr (.inr 4000)), some (.inr (.inr x1)), some (.inr (.inr x2)), some (.inl (x3 + (6 : Int32)))]) ⟨rfl, ⟨rfl, ⟨rfl, ⟨rfl, trivial⟩⟩⟩⟩ (kk1 (x3 + (6 : Int32)) z215.2)
      · skip
        exact s_none
    refine s_ite (fun h217 => ?_) (fun h217 => ?_)
    · refine s_tabIn (off := 1337) (tgt := 1370) (dflt := 1812) (lo := 0) (hi := 38) (offs := #[171, 234, 257, 290, 313, 346, 389, 422, 475, 544, 567, 627, 687, 740, 774, 817, 860, 913, 972, 1015, 1064, 1113, 1172, 1205, 1238, 1271, 1294, 1337, 1380, 1439, 1482, 1525, 1558, 1618, 1641, 1694, 1743, 1766, 1789]) (len := 171) (27 : Int32) (by decide +kernel) h217 rfl rfl rfl (by decide) ?_
      change Sim l G Y_L_law lim _ _ 1370 [some (.inr (.inr 4000)), some (.inr (.inr x1)), some (.inr (.inr x2)), some (.inl x3)] [] M
      refine s_run (b := [(.aload_n 1, 1), (.aload_n 0, 1), (.iload_n 3, 1), (.iconst 1, 1), (.iadd, 1)]) 1375 [some (.inr (.inr 4000)), some (.inr (.inr x1)), some (.inr (.inr x2)), some (.inl x3)] [.inl (x3 + (1 : Int32)), .inr (.inr 4000), .inr (.inr x1)] (by decide +kernel) rfl ?_
      refine s_sc (by decide +kernel) (fun v218 => ?_)
      refine s_run (b := [(.aload_n 0, 1), (.iload_n 3, 1), (.iconst 2, 1), (.iadd, 1)]) 1380 [some (.inr (.inr 4000)), some (.inr (.inr x1)), some (.inr (.inr x2)), some (.inl x3)] [.inl (x3 + (2 : Int32)), .inr (.inr 4000), .inl v218, .inr (.inr x1)] (by decide +kernel) rfl ?_
      refine s_sc (by decide +kernel) (fun v219 => ?_)
      refine s_run (b := [(.aload_n 0, 1), (.iload_n 3, 1), (.iconst 3, 1), (.iadd, 1)]) 1385 [some (.inr (.inr 4000)), some (.inr (.inr x1)), some (.inr (.inr x2)), some (.inl x3)] [.inl (x3 + (3 : Int32)), .inr (.inr 4000), .inl v219, .inl v218, .inr (.inr x1)] (by decide +kernel) rfl ?_
      refine s_sc (by decide +kernel) (fun v220 => ?_)
      refine s_cV (Z := Y_X11_after) (c := 11) (vs := [.inl v218, .inl v219, .inl v220]) (st := []) (rO := fun z => some (.inl z.1)) (mO := fun z => z.2) zk_X11_after zi_X11_after q1213 rfl ⟨by decide, by decide⟩ ⟨rfl, rfl⟩ rfl rfl (Nat.le_of_ble_eq_true rfl) (by decide +kernel) (fun z hz => c_X11_after hz) (fun z221 => ?_)
      change Sim l G Y_L_law lim _ _ 1389 [some (.inr (.inr 4000)), some (.inr (.inr x1)), some (.inr (.inr x2)), some (.inl x3)] [.inl z221.1] z221.2
      refine s_run (b := [(.aload_n 2, 1), (.aload_n 0, 1), (.iload_n 3, 1), (.iconst 1, 1), (.iadd, 1)]) 1394 [some (.inr (.inr 4000)), some (.inr (.inr x1)), some (.inr (.inr x2)), some (.inl x3)] [.inl (x3 + (1 : Int32)), .inr (.inr 4000), .inr (.inr x2), .inl z221.1] (by decide +kernel) rfl ?_
      refine s_sc (by decide +kernel) (fun v222 => ?_)
      refine s_run (b := [(.aload_n 0, 1), (.iload_n 3, 1), (.iconst 2, 1), (.iadd, 1)]) 1399 [some (.inr (.inr 4000)), some (.inr (.inr x1)), some (.inr (.inr x2)), some (.inl x3)] [.inl (x3 + (2 : Int32)), .inr (.inr 4000), .inl v222, .inr (.inr x2), .inl z221.1] (by decide +kernel) rfl ?_
      refine s_sc (by decide +kernel) (fun v223 => ?_)
      refine s_run (b := [(.aload_n 0, 1), (.iload_n 3, 1), (.iconst 3, 1), (.iadd, 1)]) 1404 [some (.inr (.inr 4000)), some (.inr (.inr x1)), some (.inr (.inr x2)), some (.inl x3)] [.inl (x3 + (3 : Int32)), .inr (.inr 4000), .inl v223, .inl v222, .inr (.inr x2), .inl z221.1] (by decide +kernel) rfl ?_
      refine s_sc (by decide +kernel) (fun v224 => ?_)
      refine s_cV (Z := Y_X12_after) (c := 12) (vs := [.inl v222, .inl v223, .inl v224]) (st := [.inl z221.1]) (rO := fun z => some (.inl z.1)) (mO := fun z => z.2) zk_X12_after zi_X12_after q1870 rfl ⟨by decide, by decide⟩ ⟨rfl, rfl⟩ rfl rfl (Nat.le_of_ble_eq_true rfl) (by decide +kernel) (fun z hz => c_X12_after hz) (fun z225 => ?_)
      change Sim l G Y_L_law lim _ _ 1408 [some (.inr (.inr 4000)), some (.inr (.inr x1)), some (.inr (.inr x2)), some (.inl x3)] [.inl z225.1, .inl z221.1] z225.2
      refine s_ic_eq (tgt := 1845) (off := 437) (by decide +kernel) (by decide) (fun h226 => ?_) (fun h226 => ?_)
      · skip
        refine s_run (b := [(.iinc 3 6, 3), (.goto (-1830), 3)]) 18 [some (.inr (.inr 4000)), some (.inr (.inr x1)), some (.inr (.inr x2)), some (.inl (x3 + (6 : Int32)))] [] (by decide +kernel) rfl ?_
        exact s_lsub (ls' := [some (.inr (.inr 4000)), some (.inr (.inr x1)), some (.inr (.inr x2)), some (.inl (x3 + (6 : Int32)))]) ⟨rfl, ⟨rfl, ⟨rfl, ⟨rfl, trivial⟩⟩⟩⟩ (kk1 (x3 + (6 : Int32)) z225.2)
      · skip
        exact s_none
    refine s_ite (fun h227 => ?_) (fun h227 => ?_)
    · refine s_tabIn (off := 1380) (tgt := 1413) (dflt := 1812) (lo := 0) (hi := 38) (offs := #[171, 234, 257, 290, 313, 346, 389, 422, 475, 544, 567, 627, 687, 740, 774, 817, 860, 913, 972, 1015, 1064, 1113, 1172, 1205, 1238, 1271, 1294, 1337, 1380, 1439, 1482, 1525, 1558, 1618, 1641, 1694, 1743, 1766, 1789]) (len := 171) (28 : Int32) (by decide +kernel) h227 rfl rfl rfl (by decide) ?_
      change Sim l G Y_L_law lim _ _ 1413 [some (.inr (.inr 4000)), some (.inr (.inr x1)), some (.inr (.inr x2)), some (.inl x3)] [] M
      refine s_run (b := [(.aload_n 1, 1), (.aload_n 0, 1), (.iload_n 3, 1), (.iconst 1, 1), (.iadd, 1)]) 1418 [some (.inr (.inr 4000)), some (.inr (.inr x1)), some (.inr (.inr x2)), some (.inl x3)] [.inl (x3 + (1 : Int32)), .inr (.inr 4000), .inr (.inr x1)] (by decide +kernel) rfl ?_
      refine s_sc (by decide +kernel) (fun v228 => ?_)
      refine s_run (b := [(.aload_n 0, 1), (.iload_n 3, 1), (.iconst 2, 1), (.iadd, 1)]) 1423 [some (.inr (.inr 4000)), some (.inr (.inr x1)), some (.inr (.inr x2)), some (.inl x3)] [.inl (x3 + (2 : Int32)), .inr (.inr 4000), .inl v228, .inr (.inr x1)] (by decide +kernel) rfl ?_
      refine s_sc (by decide +kernel) (fun v229 => ?_)
      refine s_run (b := [(.aload_n 0, 1), (.iload_n 3, 1), (.iconst 3, 1), (.iadd, 1)]) 1428 [some (.inr (.inr 4000)), some (.inr (.inr x1)), some (.inr (.inr x2)), some (.inl x3)] [.inl (x3 + (3 : Int32)), .inr (.inr 4000), .inl v229, .inl v228, .inr (.inr x1)] (by decide +kernel) rfl ?_
      refine s_sc (by decide +kernel) (fun v230 => ?_)
      refine s_if_eq (tgt := 1436) (off := 7) (by decide +kernel) (by decide) (fun h231 => ?_) (fun h231 => ?_)
      · skip
        refine s_run (b := [(.iconst 0, 1)]) 1437 [some (.inr (.inr 4000)), some (.inr (.inr x1)), some (.inr (.inr x2)), some (.inl x3)] [.inl (0 : Int32), .inl v229, .inl v228, .inr (.inr x1)] (by decide +kernel) rfl ?_
        exact s_lsub (ls' := [some (.inr (.inr 4000)), some (.inr (.inr x1)), some (.inr (.inr x2)), some (.inl x3)]) ⟨rfl, ⟨rfl, ⟨rfl, ⟨rfl, trivial⟩⟩⟩⟩ (J_L_law_1437 M x1 x2 x3 x1 v228 v229 (0 : Int32) K kk1 kk2_0)
      · skip
        refine s_run (b := [(.iconst 1, 1), (.goto 4, 3)]) 1437 [some (.inr (.inr 4000)), some (.inr (.inr x1)), some (.inr (.inr x2)), some (.inl x3)] [.inl (1 : Int32), .inl v229, .inl v228, .inr (.inr x1)] (by decide +kernel) rfl ?_
        exact s_lsub (ls' := [some (.inr (.inr 4000)), some (.inr (.inr x1)), some (.inr (.inr x2)), some (.inl x3)]) ⟨rfl, ⟨rfl, ⟨rfl, ⟨rfl, trivial⟩⟩⟩⟩ (J_L_law_1437 M x1 x2 x3 x1 v228 v229 (1 : Int32) K kk1 kk2_0)
    refine s_ite (fun h232 => ?_) (fun h232 => ?_)
    · refine s_tabIn (off := 1439) (tgt := 1472) (dflt := 1812) (lo := 0) (hi := 38) (offs := #[171, 234, 257, 290, 313, 346, 389, 422, 475, 544, 567, 627, 687, 740, 774, 817, 860, 913, 972, 1015, 1064, 1113, 1172, 1205, 1238, 1271, 1294, 1337, 1380, 1439, 1482, 1525, 1558, 1618, 1641, 1694, 1743, 1766, 1789]) (len := 171) (29 : Int32) (by decide +kernel) h232 rfl rfl rfl (by decide) ?_
      change Sim l G Y_L_law lim _ _ 1472 [some (.inr (.inr 4000)), some (.inr (.inr x1)), some (.inr (.inr x2)), some (.inl x3)] [] M
      refine s_run (b := [(.aload_n 1, 1), (.aload_n 0, 1), (.iload_n 3, 1), (.iconst 1, 1), (.iadd, 1)]) 1477 [some (.inr (.inr 4000)), some (.inr (.inr x1)), some (.inr (.inr x2)), some (.inl x3)] [.inl (x3 + (1 : Int32)), .inr (.inr 4000), .inr (.inr x1)] (by decide +kernel) rfl ?_
      refine s_sc (by decide +kernel) (fun v233 => ?_)
      refine s_run (b := [(.aload_n 0, 1), (.iload_n 3, 1), (.iconst 2, 1), (.iadd, 1)]) 1482 [some (.inr (.inr 4000)), some (.inr (.inr x1)), some (.inr (.inr x2)), some (.inl x3)] [.inl (x3 + (2 : Int32)), .inr (.inr 4000), .inl v233, .inr (.inr x1)] (by decide +kernel) rfl ?_
      refine s_sc (by decide +kernel) (fun v234 => ?_)
      refine s_run (b := [(.aload_n 0, 1), (.iload_n 3, 1), (.iconst 3, 1), (.iadd, 1)]) 1487 [some (.inr (.inr 4000)), some (.inr (.inr x1)), some (.inr (.inr x2)), some (.inl x3)] [.inl (x3 + (3 : Int32)), .inr (.inr 4000), .inl v234, .inl v233, .inr (.inr x1)] (by decide +kernel) rfl ?_
      refine s_sc (by decide +kernel) (fun v235 => ?_)
      refine s_cV (Z := Y_X11_duty) (c := 11) (vs := [.inl v233, .inl v234, .inl v235]) (st := []) (rO := fun z => some (.inl z.1)) (mO := fun z => z.2) zk_X11_duty zi_X11_duty q1239 rfl ⟨by decide, by decide⟩ ⟨rfl, rfl⟩ rfl rfl (Nat.le_of_ble_eq_true rfl) (by decide +kernel) (fun z hz => c_X11_duty hz) (fun z236 => ?_)
      change Sim l G Y_L_law lim _ _ 1491 [some (.inr (.inr 4000)), some (.inr (.inr x1)), some (.inr (.inr x2)), some (.inl x3)] [.inl z236.1] z236.2
      refine s_run (b := [(.aload_n 2, 1), (.aload_n 0, 1), (.iload_n 3, 1), (.iconst 1, 1), (.iadd, 1)]) 1496 [some (.inr (.inr 4000)), some (.inr (.inr x1)), some (.inr (.inr x2)), some (.inl x3)] [.inl (x3 + (1 : Int32)), .inr (.inr 4000), .inr (.inr x2), .inl z236.1] (by decide +kernel) rfl ?_
      refine s_sc (by decide +kernel) (fun v237 => ?_)
      refine s_run (b := [(.aload_n 0, 1), (.iload_n 3, 1), (.iconst 2, 1), (.iadd, 1)]) 1501 [some (.inr (.inr 4000)), some (.inr (.inr x1)), some (.inr (.inr x2)), some (.inl x3)] [.inl (x3 + (2 : Int32)), .inr (.inr 4000), .inl v237, .inr (.inr x2), .inl z236.1] (by decide +kernel) rfl ?_
      refine s_sc (by decide +kernel) (fun v238 => ?_)
      refine s_run (b := [(.aload_n 0, 1), (.iload_n 3, 1), (.iconst 3, 1), (.iadd, 1)]) 1506 [some (.inr (.inr 4000)), some (.inr (.inr x1)), some (.inr (.inr x2)), some (.inl x3)] [.inl (x3 + (3 : Int32)), .inr (.inr 4000), .inl v238, .inl v237, .inr (.inr x2), .inl z236.1] (by decide +kernel) rfl ?_
      refine s_sc (by decide +kernel) (fun v239 => ?_)
      refine s_cV (Z := Y_X12_duty) (c := 12) (vs := [.inl v237, .inl v238, .inl v239]) (st := [.inl z236.1]) (rO := fun z => some (.inl z.1)) (mO := fun z => z.2) zk_X12_duty zi_X12_duty q1882 rfl ⟨by decide, by decide⟩ ⟨rfl, rfl⟩ rfl rfl (Nat.le_of_ble_eq_true rfl) (by decide +kernel) (fun z hz => c_X12_duty hz) (fun z240 => ?_)
      change Sim l G Y_L_law lim _ _ 1510 [some (.inr (.inr 4000)), some (.inr (.inr x1)), some (.inr (.inr x2)), some (.inl x3)] [.inl z240.1, .inl z236.1] z240.2
      refine s_ic_eq (tgt := 1845) (off := 335) (by decide +kernel) (by decide) (fun h241 => ?_) (fun h241 => ?_)
      · skip
        refine s_run (b := [(.iinc 3 6, 3), (.goto (-1830), 3)]) 18 [some (.inr (.inr 4000)), some (.inr (.inr x1)), some (.inr (.inr x2)), some (.inl (x3 + (6 : Int32)))] [] (by decide +kernel) rfl ?_
        exact s_lsub (ls' := [some (.inr (.inr 4000)), some (.inr (.inr x1)), some (.inr (.inr x2)), some (.inl (x3 + (6 : Int32)))]) ⟨rfl, ⟨rfl, ⟨rfl, ⟨rfl, trivial⟩⟩⟩⟩ (kk1 (x3 + (6 : Int32)) z240.2)
      · skip
        exact s_none
    refine s_ite (fun h242 => ?_) (fun h242 => ?_)
    · refine s_tabIn (off := 1482) (tgt := 1515) (dflt := 1812) (lo := 0) (hi := 38) (offs := #[171, 234, 257, 290, 313, 346, 389, 422, 475, 544, 567, 627, 687, 740, 774, 817, 860, 913, 972, 1015, 1064, 1113, 1172, 1205, 1238, 1271, 1294, 1337, 1380, 1439, 1482, 1525, 1558, 1618, 1641, 1694, 1743, 1766, 1789]) (len := 171) (30 : Int32) (by decide +kernel) h242 rfl rfl rfl (by decide) ?_
      change Sim l G Y_L_law lim _ _ 1515 [some (.inr (.inr 4000)), some (.inr (.inr x1)), some (.inr (.inr x2)), some (.inl x3)] [] M
      refine s_run (b := [(.aload_n 1, 1), (.aload_n 0, 1), (.iload_n 3, 1), (.iconst 1, 1), (.iadd, 1)]) 1520 [some (.inr (.inr 4000)), some (.inr (.inr x1)), some (.inr (.inr x2)), some (.inl x3)] [.inl (x3 + (1 : Int32)), .inr (.inr 4000), .inr (.inr x1)] (by decide +kernel) rfl ?_
      refine s_sc (by decide +kernel) (fun v243 => ?_)
      refine s_run (b := [(.aload_n 0, 1), (.iload_n 3, 1), (.iconst 2, 1), (.iadd, 1)]) 1525 [some (.inr (.inr 4000)), some (.inr (.inr x1)), some (.inr (.inr x2)), some (.inl x3)] [.inl (x3 + (2 : Int32)), .inr (.inr 4000), .inl v243, .inr (.inr x1)] (by decide +kernel) rfl ?_
      refine s_sc (by decide +kernel) (fun v244 => ?_)
      refine s_run (b := [(.aload_n 0, 1), (.iload_n 3, 1), (.iconst 3, 1), (.iadd, 1)]) 1530 [some (.inr (.inr 4000)), some (.inr (.inr x1)), some (.inr (.inr x2)), some (.inl x3)] [.inl (x3 + (3 : Int32)), .inr (.inr 4000), .inl v244, .inl v243, .inr (.inr x1)] (by decide +kernel) rfl ?_
      refine s_sc (by decide +kernel) (fun v245 => ?_)
      refine s_cV (Z := Y_X11_passed) (c := 11) (vs := [.inl v243, .inl v244, .inl v245]) (st := []) (rO := fun z => some (.inl z)) (mO := fun _ => M) zk_X11_passed zi_X11_passed q1251 rfl ⟨by decide, by decide⟩ ⟨rfl, rfl⟩ rfl rfl (Nat.le_of_ble_eq_true rfl) (by decide +kernel) (fun z hz => c_X11_passed hz) (fun v246 => ?_)
      change Sim l G Y_L_law lim _ _ 1534 [some (.inr (.inr 4000)), some (.inr (.inr x1)), some (.inr (.inr x2)), some (.inl x3)] [.inl v246] M
      refine s_run (b := [(.aload_n 2, 1), (.aload_n 0, 1), (.iload_n 3, 1), (.iconst 1, 1), (.iadd, 1)]) 1539 [some (.inr (.inr 4000)), some (.inr (.inr x1)), some (.inr (.inr x2)), some (.inl x3)] [.inl (x3 + (1 : Int32)), .inr (.inr 4000), .inr (.inr x2), .inl v246] (by decide +kernel) rfl ?_
      refine s_sc (by decide +kernel) (fun v247 => ?_)
      refine s_run (b := [(.aload_n 0, 1), (.iload_n 3, 1), (.iconst 2, 1), (.iadd, 1)]) 1544 [some (.inr (.inr 4000)), some (.inr (.inr x1)), some (.inr (.inr x2)), some (.inl x3)] [.inl (x3 + (2 : Int32)), .inr (.inr 4000), .inl v247, .inr (.inr x2), .inl v246] (by decide +kernel) rfl ?_
      refine s_sc (by decide +kernel) (fun v248 => ?_)
      refine s_run (b := [(.aload_n 0, 1), (.iload_n 3, 1), (.iconst 3, 1), (.iadd, 1)]) 1549 [some (.inr (.inr 4000)), some (.inr (.inr x1)), some (.inr (.inr x2)), some (.inl x3)] [.inl (x3 + (3 : Int32)), .inr (.inr 4000), .inl v248, .inl v247, .inr (.inr x2), .inl v246] (by decide +kernel) rfl ?_
      refine s_sc (by decide +kernel) (fun v249 => ?_)
      refine s_cV (Z := Y_X12_passed) (c := 12) (vs := [.inl v247, .inl v248, .inl v249]) (st := [.inl v246]) (rO := fun z => some (.inl z.1)) (mO := fun z => z.2) zk_X12_passed zi_X12_passed q1894 rfl ⟨by decide, by decide⟩ ⟨rfl, rfl⟩ rfl rfl (Nat.le_of_ble_eq_true rfl) (by decide +kernel) (fun z hz => c_X12_passed hz) (fun z250 => ?_)
      change Sim l G Y_L_law lim _ _ 1553 [some (.inr (.inr 4000)), some (.inr (.inr x1)), some (.inr (.inr x2)), some (.inl x3)] [.inl z250.1, .inl v246] z250.2
      refine s_ic_eq (tgt := 1845) (off := 292) (by decide +kernel) (by decide) (fun h251 => ?_) (fun h251 => ?_)
      · skip
        refine s_run (b := [(.iinc 3 6, 3), (.goto (-1830), 3)]) 18 [some (.inr (.inr 4000)), some (.inr (.inr x1)), some (.inr (.inr x2)), some (.inl (x3 + (6 : Int32)))] [] (by decide +kernel) rfl ?_
        exact s_lsub (ls' := [some (.inr (.inr 4000)), some (.inr (.inr x1)), some (.inr (.inr x2)), some (.inl (x3 + (6 : Int32)))]) ⟨rfl, ⟨rfl, ⟨rfl, ⟨rfl, trivial⟩⟩⟩⟩ (kk1 (x3 + (6 : Int32)) z250.2)
      · skip
        exact s_none
    refine s_ite (fun h252 => ?_) (fun h252 => ?_)
    · refine s_tabIn (off := 1525) (tgt := 1558) (dflt := 1812) (lo := 0) (hi := 38) (offs := #[171, 234, 257, 290, 313, 346, 389, 422, 475, 544, 567, 627, 687, 740, 774, 817, 860, 913, 972, 1015, 1064, 1113, 1172, 1205, 1238, 1271, 1294, 1337, 1380, 1439, 1482, 1525, 1558, 1618, 1641, 1694, 1743, 1766, 1789]) (len := 171) (31 : Int32) (by decide +kernel) h252 rfl rfl rfl (by decide) ?_
      change Sim l G Y_L_law lim _ _ 1558 [some (.inr (.inr 4000)), some (.inr (.inr x1)), some (.inr (.inr x2)), some (.inl x3)] [] M
      refine s_run (b := [(.aload_n 1, 1), (.aload_n 0, 1), (.iload_n 3, 1), (.iconst 1, 1), (.iadd, 1)]) 1563 [some (.inr (.inr 4000)), some (.inr (.inr x1)), some (.inr (.inr x2)), some (.inl x3)] [.inl (x3 + (1 : Int32)), .inr (.inr 4000), .inr (.inr x1)] (by decide +kernel) rfl ?_
      refine s_sc (by decide +kernel) (fun v253 => ?_)
      refine s_run (b := [(.aload_n 0, 1), (.iload_n 3, 1), (.iconst 2, 1), (.iadd, 1)]) 1568 [some (.inr (.inr 4000)), some (.inr (.inr x1)), some (.inr (.inr x2)), some (.inl x3)] [.inl (x3 + (2 : Int32)), .inr (.inr 4000), .inl v253, .inr (.inr x1)] (by decide +kernel) rfl ?_
      refine s_sc (by decide +kernel) (fun v254 => ?_)
      refine s_cV (Z := Y_X11_tied) (c := 11) (vs := [.inl v253, .inl v254]) (st := []) (rO := fun z => some (.inl z.1)) (mO := fun z => z.2) zk_X11_tied zi_X11_tied q1259 rfl ⟨by decide, by decide⟩ ⟨rfl, rfl⟩ rfl rfl (Nat.le_of_ble_eq_true rfl) (by decide +kernel) (fun z hz => c_X11_tied hz) (fun z255 => ?_)
      change Sim l G Y_L_law lim _ _ 1572 [some (.inr (.inr 4000)), some (.inr (.inr x1)), some (.inr (.inr x2)), some (.inl x3)] [.inl z255.1] z255.2
      refine s_run (b := [(.aload_n 2, 1), (.aload_n 0, 1), (.iload_n 3, 1), (.iconst 1, 1), (.iadd, 1)]) 1577 [some (.inr (.inr 4000)), some (.inr (.inr x1)), some (.inr (.inr x2)), some (.inl x3)] [.inl (x3 + (1 : Int32)), .inr (.inr 4000), .inr (.inr x2), .inl z255.1] (by decide +kernel) rfl ?_
      refine s_sc (by decide +kernel) (fun v256 => ?_)
      refine s_run (b := [(.aload_n 0, 1), (.iload_n 3, 1), (.iconst 2, 1), (.iadd, 1)]) 1582 [some (.inr (.inr 4000)), some (.inr (.inr x1)), some (.inr (.inr x2)), some (.inl x3)] [.inl (x3 + (2 : Int32)), .inr (.inr 4000), .inl v256, .inr (.inr x2), .inl z255.1] (by decide +kernel) rfl ?_
      refine s_sc (by decide +kernel) (fun v257 => ?_)
      refine s_cV (Z := Y_X12_tied) (c := 12) (vs := [.inl v256, .inl v257]) (st := [.inl z255.1]) (rO := fun z => some (.inl z.1)) (mO := fun z => z.2) zk_X12_tied zi_X12_tied q1898 rfl ⟨by decide, by decide⟩ ⟨rfl, rfl⟩ rfl rfl (Nat.le_of_ble_eq_true rfl) (by decide +kernel) (fun z hz => c_X12_tied hz) (fun z258 => ?_)
      change Sim l G Y_L_law lim _ _ 1586 [some (.inr (.inr 4000)), some (.inr (.inr x1)), some (.inr (.inr x2)), some (.inl x3)] [.inl z258.1, .inl z255.1] z258.2
      refine s_ic_eq (tgt := 1845) (off := 259) (by decide +kernel) (by decide) (fun h259 => ?_) (fun h259 => ?_)
      · skip
        refine s_run (b := [(.iinc 3 6, 3), (.goto (-1830), 3)]) 18 [some (.inr (.inr 4000)), some (.inr (.inr x1)), some (.inr (.inr x2)), some (.inl (x3 + (6 : Int32)))] [] (by decide +kernel) rfl ?_
        exact s_lsub (ls' := [some (.inr (.inr 4000)), some (.inr (.inr x1)), some (.inr (.inr x2)), some (.inl (x3 + (6 : Int32)))]) ⟨rfl, ⟨rfl, ⟨rfl, ⟨rfl, trivial⟩⟩⟩⟩ (kk1 (x3 + (6 : Int32)) z258.2)
      · skip
        exact s_none
    refine s_ite (fun h260 => ?_) (fun h260 => ?_)
    · refine s_tabIn (off := 1558) (tgt := 1591) (dflt := 1812) (lo := 0) (hi := 38) (offs := #[171, 234, 257, 290, 313, 346, 389, 422, 475, 544, 567, 627, 687, 740, 774, 817, 860, 913, 972, 1015, 1064, 1113, 1172, 1205, 1238, 1271, 1294, 1337, 1380, 1439, 1482, 1525, 1558, 1618, 1641, 1694, 1743, 1766, 1789]) (len := 171) (32 : Int32) (by decide +kernel) h260 rfl rfl rfl (by decide) ?_
      change Sim l G Y_L_law lim _ _ 1591 [some (.inr (.inr 4000)), some (.inr (.inr x1)), some (.inr (.inr x2)), some (.inl x3)] [] M
      refine s_run (b := [(.aload_n 1, 1), (.aload_n 0, 1), (.iload_n 3, 1), (.iconst 1, 1), (.iadd, 1)]) 1596 [some (.inr (.inr 4000)), some (.inr (.inr x1)), some (.inr (.inr x2)), some (.inl x3)] [.inl (x3 + (1 : Int32)), .inr (.inr 4000), .inr (.inr x1)] (by decide +kernel) rfl ?_
      refine s_sc (by decide +kernel) (fun v261 => ?_)
      refine s_run (b := [(.aload_n 0, 1), (.iload_n 3, 1), (.iconst 2, 1), (.iadd, 1)]) 1601 [some (.inr (.inr 4000)), some (.inr (.inr x1)), some (.inr (.inr x2)), some (.inl x3)] [.inl (x3 + (2 : Int32)), .inr (.inr 4000), .inl v261, .inr (.inr x1)] (by decide +kernel) rfl ?_
      refine s_sc (by decide +kernel) (fun v262 => ?_)
      refine s_run (b := [(.aload_n 0, 1), (.iload_n 3, 1), (.iconst 3, 1), (.iadd, 1)]) 1606 [some (.inr (.inr 4000)), some (.inr (.inr x1)), some (.inr (.inr x2)), some (.inl x3)] [.inl (x3 + (3 : Int32)), .inr (.inr 4000), .inl v262, .inl v261, .inr (.inr x1)] (by decide +kernel) rfl ?_
      refine s_sc (by decide +kernel) (fun v263 => ?_)
      refine s_if_eq (tgt := 1614) (off := 7) (by decide +kernel) (by decide) (fun h264 => ?_) (fun h264 => ?_)
      · skip
        refine s_run (b := [(.iconst 0, 1)]) 1615 [some (.inr (.inr 4000)), some (.inr (.inr x1)), some (.inr (.inr x2)), some (.inl x3)] [.inl (0 : Int32), .inl v262, .inl v261, .inr (.inr x1)] (by decide +kernel) rfl ?_
        exact s_lsub (ls' := [some (.inr (.inr 4000)), some (.inr (.inr x1)), some (.inr (.inr x2)), some (.inl x3)]) ⟨rfl, ⟨rfl, ⟨rfl, ⟨rfl, trivial⟩⟩⟩⟩ (J_L_law_1615 M x1 x2 x3 x1 v261 v262 (0 : Int32) K kk1 kk2_0)
      · skip
        refine s_run (b := [(.iconst 1, 1), (.goto 4, 3)]) 1615 [some (.inr (.inr 4000)), some (.inr (.inr x1)), some (.inr (.inr x2)), some (.inl x3)] [.inl (1 : Int32), .inl v262, .inl v261, .inr (.inr x1)] (by decide +kernel) rfl ?_
        exact s_lsub (ls' := [some (.inr (.inr 4000)), some (.inr (.inr x1)), some (.inr (.inr x2)), some (.inl x3)]) ⟨rfl, ⟨rfl, ⟨rfl, ⟨rfl, trivial⟩⟩⟩⟩ (J_L_law_1615 M x1 x2 x3 x1 v261 v262 (1 : Int32) K kk1 kk2_0)
    refine s_ite (fun h265 => ?_) (fun h265 => ?_)
    · refine s_tabIn (off := 1618) (tgt := 1651) (dflt := 1812) (lo := 0) (hi := 38) (offs := #[171, 234, 257, 290, 313, 346, 389, 422, 475, 544, 567, 627, 687, 740, 774, 817, 860, 913, 972, 1015, 1064, 1113, 1172, 1205, 1238, 1271, 1294, 1337, 1380, 1439, 1482, 1525, 1558, 1618, 1641, 1694, 1743, 1766, 1789]) (len := 171) (33 : Int32) (by decide +kernel) h265 rfl rfl rfl (by decide) ?_
      change Sim l G Y_L_law lim _ _ 1651 [some (.inr (.inr 4000)), some (.inr (.inr x1)), some (.inr (.inr x2)), some (.inl x3)] [] M
      refine s_run (b := [(.aload_n 1, 1), (.aload_n 0, 1), (.iload_n 3, 1), (.iconst 1, 1), (.iadd, 1)]) 1656 [some (.inr (.inr 4000)), some (.inr (.inr x1)), some (.inr (.inr x2)), some (.inl x3)] [.inl (x3 + (1 : Int32)), .inr (.inr 4000), .inr (.inr x1)] (by decide +kernel) rfl ?_
      refine s_sc (by decide +kernel) (fun v266 => ?_)
      refine s_cV (Z := Y_X11_best) (c := 11) (vs := [.inl v266]) (st := []) (rO := fun z => some (.inl z.1)) (mO := fun z => z.2) zk_X11_best zi_X11_best q1273 rfl ⟨by decide, by decide⟩ ⟨rfl, rfl⟩ rfl rfl (Nat.le_of_ble_eq_true rfl) (by decide +kernel) (fun z hz => c_X11_best hz) (fun z267 => ?_)
      change Sim l G Y_L_law lim _ _ 1660 [some (.inr (.inr 4000)), some (.inr (.inr x1)), some (.inr (.inr x2)), some (.inl x3)] [.inl z267.1] z267.2
      refine s_run (b := [(.aload_n 2, 1), (.aload_n 0, 1), (.iload_n 3, 1), (.iconst 1, 1), (.iadd, 1)]) 1665 [some (.inr (.inr 4000)), some (.inr (.inr x1)), some (.inr (.inr x2)), some (.inl x3)] [.inl (x3 + (1 : Int32)), .inr (.inr 4000), .inr (.inr x2), .inl z267.1] (by decide +kernel) rfl ?_
      refine s_sc (by decide +kernel) (fun v268 => ?_)
      refine s_cV (Z := Y_X12_best) (c := 12) (vs := [.inl v268]) (st := [.inl z267.1]) (rO := fun z => some (.inl z.1)) (mO := fun z => z.2) zk_X12_best zi_X12_best q1807 rfl ⟨by decide, by decide⟩ ⟨rfl, rfl⟩ rfl rfl (Nat.le_of_ble_eq_true rfl) (by decide +kernel) (fun z hz => c_X12_best hz) (fun z269 => ?_)
      change Sim l G Y_L_law lim _ _ 1669 [some (.inr (.inr 4000)), some (.inr (.inr x1)), some (.inr (.inr x2)), some (.inl x3)] [.inl z269.1, .inl z267.1] z269.2
      refine s_ic_eq (tgt := 1845) (off := 176) (by decide +kernel) (by decide) (fun h270 => ?_) (fun h270 => ?_)
      · skip
        refine s_run (b := [(.iinc 3 6, 3), (.goto (-1830), 3)]) 18 [some (.inr (.inr 4000)), some (.inr (.inr x1)), some (.inr (.inr x2)), some (.inl (x3 + (6 : Int32)))] [] (by decide +kernel) rfl ?_
        exact s_lsub (ls' := [some (.inr (.inr 4000)), some (.inr (.inr x1)), some (.inr (.inr x2)), some (.inl (x3 + (6 : Int32)))]) ⟨rfl, ⟨rfl, ⟨rfl, ⟨rfl, trivial⟩⟩⟩⟩ (kk1 (x3 + (6 : Int32)) z269.2)
      · skip
        exact s_none
    refine s_ite (fun h271 => ?_) (fun h271 => ?_)
    · refine s_tabIn (off := 1641) (tgt := 1674) (dflt := 1812) (lo := 0) (hi := 38) (offs := #[171, 234, 257, 290, 313, 346, 389, 422, 475, 544, 567, 627, 687, 740, 774, 817, 860, 913, 972, 1015, 1064, 1113, 1172, 1205, 1238, 1271, 1294, 1337, 1380, 1439, 1482, 1525, 1558, 1618, 1641, 1694, 1743, 1766, 1789]) (len := 171) (34 : Int32) (by decide +kernel) h271 rfl rfl rfl (by decide) ?_
      change Sim l G Y_L_law lim _ _ 1674 [some (.inr (.inr 4000)), some (.inr (.inr x1)), some (.inr (.inr x2)), some (.inl x3)] [] M
      refine s_run (b := [(.aload_n 1, 1), (.aload_n 0, 1), (.iload_n 3, 1), (.iconst 1, 1), (.iadd, 1)]) 1679 [some (.inr (.inr 4000)), some (.inr (.inr x1)), some (.inr (.inr x2)), some (.inl x3)] [.inl (x3 + (1 : Int32)), .inr (.inr 4000), .inr (.inr x1)] (by decide +kernel) rfl ?_
      refine s_sc (by decide +kernel) (fun v272 => ?_)
      refine s_run (b := [(.aload_n 0, 1), (.iload_n 3, 1), (.iconst 2, 1), (.iadd, 1)]) 1684 [some (.inr (.inr 4000)), some (.inr (.inr x1)), some (.inr (.inr x2)), some (.inl x3)] [.inl (x3 + (2 : Int32)), .inr (.inr 4000), .inl v272, .inr (.inr x1)] (by decide +kernel) rfl ?_
      refine s_sc (by decide +kernel) (fun v273 => ?_)
      refine s_run (b := [(.aload_n 0, 1), (.iload_n 3, 1), (.iconst 3, 1), (.iadd, 1)]) 1689 [some (.inr (.inr 4000)), some (.inr (.inr x1)), some (.inr (.inr x2)), some (.inl x3)] [.inl (x3 + (3 : Int32)), .inr (.inr 4000), .inl v273, .inl v272, .inr (.inr x1)] (by decide +kernel) rfl ?_
      refine s_sc (by decide +kernel) (fun v274 => ?_)
      refine s_run (b := [(.aload_n 0, 1), (.iload_n 3, 1), (.iconst 4, 1), (.iadd, 1)]) 1694 [some (.inr (.inr 4000)), some (.inr (.inr x1)), some (.inr (.inr x2)), some (.inl x3)] [.inl (x3 + (4 : Int32)), .inr (.inr 4000), .inl v274, .inl v273, .inl v272, .inr (.inr x1)] (by decide +kernel) rfl ?_
      refine s_sc (by decide +kernel) (fun v275 => ?_)
      refine s_cV (Z := Y_X11_fewer) (c := 11) (vs := [.inl v272, .inl v273, .inl v274, .inl v275]) (st := []) (rO := fun z => some (.inl z.1)) (mO := fun z => z.2) zk_X11_fewer zi_X11_fewer q1282 rfl ⟨by decide, by decide⟩ ⟨rfl, rfl⟩ rfl rfl (Nat.le_of_ble_eq_true rfl) (by decide +kernel) (fun z hz => c_X11_fewer hz) (fun z276 => ?_)
      change Sim l G Y_L_law lim _ _ 1698 [some (.inr (.inr 4000)), some (.inr (.inr x1)), some (.inr (.inr x2)), some (.inl x3)] [.inl z276.1] z276.2
      refine s_run (b := [(.aload_n 2, 1), (.aload_n 0, 1), (.iload_n 3, 1), (.iconst 1, 1), (.iadd, 1)]) 1703 [some (.inr (.inr 4000)), some (.inr (.inr x1)), some (.inr (.inr x2)), some (.inl x3)] [.inl (x3 + (1 : Int32)), .inr (.inr 4000), .inr (.inr x2), .inl z276.1] (by decide +kernel) rfl ?_
      refine s_sc (by decide +kernel) (fun v277 => ?_)
      refine s_run (b := [(.aload_n 0, 1), (.iload_n 3, 1), (.iconst 2, 1), (.iadd, 1)]) 1708 [some (.inr (.inr 4000)), some (.inr (.inr x1)), some (.inr (.inr x2)), some (.inl x3)] [.inl (x3 + (2 : Int32)), .inr (.inr 4000), .inl v277, .inr (.inr x2), .inl z276.1] (by decide +kernel) rfl ?_
      refine s_sc (by decide +kernel) (fun v278 => ?_)
      refine s_run (b := [(.aload_n 0, 1), (.iload_n 3, 1), (.iconst 3, 1), (.iadd, 1)]) 1713 [some (.inr (.inr 4000)), some (.inr (.inr x1)), some (.inr (.inr x2)), some (.inl x3)] [.inl (x3 + (3 : Int32)), .inr (.inr 4000), .inl v278, .inl v277, .inr (.inr x2), .inl z276.1] (by decide +kernel) rfl ?_
      refine s_sc (by decide +kernel) (fun v279 => ?_)
      refine s_run (b := [(.aload_n 0, 1), (.iload_n 3, 1), (.iconst 4, 1), (.iadd, 1)]) 1718 [some (.inr (.inr 4000)), some (.inr (.inr x1)), some (.inr (.inr x2)), some (.inl x3)] [.inl (x3 + (4 : Int32)), .inr (.inr 4000), .inl v279, .inl v278, .inl v277, .inr (.inr x2), .inl z276.1] (by decide +kernel) rfl ?_
      refine s_sc (by decide +kernel) (fun v280 => ?_)
      refine s_cV (Z := Y_X12_fewer) (c := 12) (vs := [.inl v277, .inl v278, .inl v279, .inl v280]) (st := [.inl z276.1]) (rO := fun z => some (.inl z.1)) (mO := fun z => z.2) zk_X12_fewer zi_X12_fewer q1711 rfl ⟨by decide, by decide⟩ ⟨rfl, rfl⟩ rfl rfl (Nat.le_of_ble_eq_true rfl) (by decide +kernel) (fun z hz => c_X12_fewer hz) (fun z281 => ?_)
      change Sim l G Y_L_law lim _ _ 1722 [some (.inr (.inr 4000)), some (.inr (.inr x1)), some (.inr (.inr x2)), some (.inl x3)] [.inl z281.1, .inl z276.1] z281.2
      refine s_ic_eq (tgt := 1845) (off := 123) (by decide +kernel) (by decide) (fun h282 => ?_) (fun h282 => ?_)
      · skip
        refine s_run (b := [(.iinc 3 6, 3), (.goto (-1830), 3)]) 18 [some (.inr (.inr 4000)), some (.inr (.inr x1)), some (.inr (.inr x2)), some (.inl (x3 + (6 : Int32)))] [] (by decide +kernel) rfl ?_
        exact s_lsub (ls' := [some (.inr (.inr 4000)), some (.inr (.inr x1)), some (.inr (.inr x2)), some (.inl (x3 + (6 : Int32)))]) ⟨rfl, ⟨rfl, ⟨rfl, ⟨rfl, trivial⟩⟩⟩⟩ (kk1 (x3 + (6 : Int32)) z281.2)
      · skip
        exact s_none
    refine s_ite (fun h283 => ?_) (fun h283 => ?_)
    · refine s_tabIn (off := 1694) (tgt := 1727) (dflt := 1812) (lo := 0) (hi := 38) (offs := #[171, 234, 257, 290, 313, 346, 389, 422, 475, 544, 567, 627, 687, 740, 774, 817, 860, 913, 972, 1015, 1064, 1113, 1172, 1205, 1238, 1271, 1294, 1337, 1380, 1439, 1482, 1525, 1558, 1618, 1641, 1694, 1743, 1766, 1789]) (len := 171) (35 : Int32) (by decide +kernel) h283 rfl rfl rfl (by decide) ?_
      change Sim l G Y_L_law lim _ _ 1727 [some (.inr (.inr 4000)), some (.inr (.inr x1)), some (.inr (.inr x2)), some (.inl x3)] [] M
      refine s_run (b := [(.aload_n 1, 1), (.aload_n 0, 1), (.iload_n 3, 1), (.iconst 1, 1), (.iadd, 1)]) 1732 [some (.inr (.inr 4000)), some (.inr (.inr x1)), some (.inr (.inr x2)), some (.inl x3)] [.inl (x3 + (1 : Int32)), .inr (.inr 4000), .inr (.inr x1)] (by decide +kernel) rfl ?_
      refine s_sc (by decide +kernel) (fun v284 => ?_)
      refine s_run (b := [(.aload_n 0, 1), (.iload_n 3, 1), (.iconst 2, 1), (.iadd, 1)]) 1737 [some (.inr (.inr 4000)), some (.inr (.inr x1)), some (.inr (.inr x2)), some (.inl x3)] [.inl (x3 + (2 : Int32)), .inr (.inr 4000), .inl v284, .inr (.inr x1)] (by decide +kernel) rfl ?_
      refine s_sc (by decide +kernel) (fun v285 => ?_)
      refine s_if_eq (tgt := 1745) (off := 7) (by decide +kernel) (by decide) (fun h286 => ?_) (fun h286 => ?_)
      · skip
        refine s_run (b := [(.iconst 0, 1)]) 1746 [some (.inr (.inr 4000)), some (.inr (.inr x1)), some (.inr (.inr x2)), some (.inl x3)] [.inl (0 : Int32), .inl v284, .inr (.inr x1)] (by decide +kernel) rfl ?_
        exact s_lsub (ls' := [some (.inr (.inr 4000)), some (.inr (.inr x1)), some (.inr (.inr x2)), some (.inl x3)]) ⟨rfl, ⟨rfl, ⟨rfl, ⟨rfl, trivial⟩⟩⟩⟩ (J_L_law_1746 M x1 x2 x3 x1 v284 (0 : Int32) K kk1 kk2_0)
      · skip
        refine s_run (b := [(.iconst 1, 1), (.goto 4, 3)]) 1746 [some (.inr (.inr 4000)), some (.inr (.inr x1)), some (.inr (.inr x2)), some (.inl x3)] [.inl (1 : Int32), .inl v284, .inr (.inr x1)] (by decide +kernel) rfl ?_
        exact s_lsub (ls' := [some (.inr (.inr 4000)), some (.inr (.inr x1)), some (.inr (.inr x2)), some (.inl x3)]) ⟨rfl, ⟨rfl, ⟨rfl, ⟨rfl, trivial⟩⟩⟩⟩ (J_L_law_1746 M x1 x2 x3 x1 v284 (1 : Int32) K kk1 kk2_0)
    refine s_ite (fun h287 => ?_) (fun h287 => ?_)
    · refine s_tabIn (off := 1743) (tgt := 1776) (dflt := 1812) (lo := 0) (hi := 38) (offs := #[171, 234, 257, 290, 313, 346, 389, 422, 475, 544, 567, 627, 687, 740, 774, 817, 860, 913, 972, 1015, 1064, 1113, 1172, 1205, 1238, 1271, 1294, 1337, 1380, 1439, 1482, 1525, 1558, 1618, 1641, 1694, 1743, 1766, 1789]) (len := 171) (36 : Int32) (by decide +kernel) h287 rfl rfl rfl (by decide) ?_
      change Sim l G Y_L_law lim _ _ 1776 [some (.inr (.inr 4000)), some (.inr (.inr x1)), some (.inr (.inr x2)), some (.inl x3)] [] M
      refine s_run (b := [(.aload_n 1, 1), (.aload_n 0, 1), (.iload_n 3, 1), (.iconst 1, 1), (.iadd, 1)]) 1781 [some (.inr (.inr 4000)), some (.inr (.inr x1)), some (.inr (.inr x2)), some (.inl x3)] [.inl (x3 + (1 : Int32)), .inr (.inr 4000), .inr (.inr x1)] (by decide +kernel) rfl ?_
      refine s_sc (by decide +kernel) (fun v288 => ?_)
      refine s_cV (Z := Y_X11_count) (c := 11) (vs := [.inl v288]) (st := []) (rO := fun z => some (.inl z)) (mO := fun _ => M) zk_X11_count zi_X11_count q1294 rfl ⟨by decide, by decide⟩ ⟨rfl, rfl⟩ rfl rfl (Nat.le_of_ble_eq_true rfl) (by decide +kernel) (fun z hz => c_X11_count hz) (fun v289 => ?_)
      change Sim l G Y_L_law lim _ _ 1785 [some (.inr (.inr 4000)), some (.inr (.inr x1)), some (.inr (.inr x2)), some (.inl x3)] [.inl v289] M
      refine s_run (b := [(.aload_n 2, 1), (.aload_n 0, 1), (.iload_n 3, 1), (.iconst 1, 1), (.iadd, 1)]) 1790 [some (.inr (.inr 4000)), some (.inr (.inr x1)), some (.inr (.inr x2)), some (.inl x3)] [.inl (x3 + (1 : Int32)), .inr (.inr 4000), .inr (.inr x2), .inl v289] (by decide +kernel) rfl ?_
      refine s_sc (by decide +kernel) (fun v290 => ?_)
      refine s_cV (Z := Y_X12_count) (c := 12) (vs := [.inl v290]) (st := [.inl v289]) (rO := fun z => some (.inl z)) (mO := fun _ => M) zk_X12_count zi_X12_count q1927 rfl ⟨by decide, by decide⟩ ⟨rfl, rfl⟩ rfl rfl (Nat.le_of_ble_eq_true rfl) (by decide +kernel) (fun z hz => c_X12_count hz) (fun v291 => ?_)
      change Sim l G Y_L_law lim _ _ 1794 [some (.inr (.inr 4000)), some (.inr (.inr x1)), some (.inr (.inr x2)), some (.inl x3)] [.inl v291, .inl v289] M
      refine s_ic_eq (tgt := 1845) (off := 51) (by decide +kernel) (by decide) (fun h292 => ?_) (fun h292 => ?_)
      · skip
        refine s_run (b := [(.iinc 3 6, 3), (.goto (-1830), 3)]) 18 [some (.inr (.inr 4000)), some (.inr (.inr x1)), some (.inr (.inr x2)), some (.inl (x3 + (6 : Int32)))] [] (by decide +kernel) rfl ?_
        exact s_lsub (ls' := [some (.inr (.inr 4000)), some (.inr (.inr x1)), some (.inr (.inr x2)), some (.inl (x3 + (6 : Int32)))]) ⟨rfl, ⟨rfl, ⟨rfl, ⟨rfl, trivial⟩⟩⟩⟩ (kk1 (x3 + (6 : Int32)) M)
      · skip
        exact s_none
    refine s_ite (fun h293 => ?_) (fun h293 => ?_)
    · refine s_tabIn (off := 1766) (tgt := 1799) (dflt := 1812) (lo := 0) (hi := 38) (offs := #[171, 234, 257, 290, 313, 346, 389, 422, 475, 544, 567, 627, 687, 740, 774, 817, 860, 913, 972, 1015, 1064, 1113, 1172, 1205, 1238, 1271, 1294, 1337, 1380, 1439, 1482, 1525, 1558, 1618, 1641, 1694, 1743, 1766, 1789]) (len := 171) (37 : Int32) (by decide +kernel) h293 rfl rfl rfl (by decide) ?_
      change Sim l G Y_L_law lim _ _ 1799 [some (.inr (.inr 4000)), some (.inr (.inr x1)), some (.inr (.inr x2)), some (.inl x3)] [] M
      refine s_run (b := [(.aload_n 1, 1), (.aload_n 0, 1), (.iload_n 3, 1), (.iconst 1, 1), (.iadd, 1)]) 1804 [some (.inr (.inr 4000)), some (.inr (.inr x1)), some (.inr (.inr x2)), some (.inl x3)] [.inl (x3 + (1 : Int32)), .inr (.inr 4000), .inr (.inr x1)] (by decide +kernel) rfl ?_
      refine s_sc (by decide +kernel) (fun v294 => ?_)
      refine s_cV (Z := Y_X11_image) (c := 11) (vs := [.inl v294]) (st := []) (rO := fun z => some (.inl z.1)) (mO := fun z => z.2) zk_X11_image zi_X11_image q1298 rfl ⟨by decide, by decide⟩ ⟨rfl, rfl⟩ rfl rfl (Nat.le_of_ble_eq_true rfl) (by decide +kernel) (fun z hz => c_X11_image hz) (fun z295 => ?_)
      change Sim l G Y_L_law lim _ _ 1808 [some (.inr (.inr 4000)), some (.inr (.inr x1)), some (.inr (.inr x2)), some (.inl x3)] [.inl z295.1] z295.2
      refine s_run (b := [(.aload_n 2, 1), (.aload_n 0, 1), (.iload_n 3, 1), (.iconst 1, 1), (.iadd, 1)]) 1813 [some (.inr (.inr 4000)), some (.inr (.inr x1)), some (.inr (.inr x2)), some (.inl x3)] [.inl (x3 + (1 : Int32)), .inr (.inr 4000), .inr (.inr x2), .inl z295.1] (by decide +kernel) rfl ?_
      refine s_sc (by decide +kernel) (fun v296 => ?_)
      refine s_cV (Z := Y_X12_image) (c := 12) (vs := [.inl v296]) (st := [.inl z295.1]) (rO := fun z => some (.inl z.1)) (mO := fun z => z.2) zk_X12_image zi_X12_image q1931 rfl ⟨by decide, by decide⟩ ⟨rfl, rfl⟩ rfl rfl (Nat.le_of_ble_eq_true rfl) (by decide +kernel) (fun z hz => c_X12_image hz) (fun z297 => ?_)
      change Sim l G Y_L_law lim _ _ 1817 [some (.inr (.inr 4000)), some (.inr (.inr x1)), some (.inr (.inr x2)), some (.inl x3)] [.inl z297.1, .inl z295.1] z297.2
      refine s_ic_eq (tgt := 1845) (off := 28) (by decide +kernel) (by decide) (fun h298 => ?_) (fun h298 => ?_)
      · skip
        refine s_run (b := [(.iinc 3 6, 3), (.goto (-1830), 3)]) 18 [some (.inr (.inr 4000)), some (.inr (.inr x1)), some (.inr (.inr x2)), some (.inl (x3 + (6 : Int32)))] [] (by decide +kernel) rfl ?_
        exact s_lsub (ls' := [some (.inr (.inr 4000)), some (.inr (.inr x1)), some (.inr (.inr x2)), some (.inl (x3 + (6 : Int32)))]) ⟨rfl, ⟨rfl, ⟨rfl, ⟨rfl, trivial⟩⟩⟩⟩ (kk1 (x3 + (6 : Int32)) z297.2)
      · skip
        exact s_none
    refine s_ite (fun h299 => ?_) (fun h299 => ?_)
    · refine s_tabIn (off := 1789) (tgt := 1822) (dflt := 1812) (lo := 0) (hi := 38) (offs := #[171, 234, 257, 290, 313, 346, 389, 422, 475, 544, 567, 627, 687, 740, 774, 817, 860, 913, 972, 1015, 1064, 1113, 1172, 1205, 1238, 1271, 1294, 1337, 1380, 1439, 1482, 1525, 1558, 1618, 1641, 1694, 1743, 1766, 1789]) (len := 171) (38 : Int32) (by decide +kernel) h299 rfl rfl rfl (by decide) ?_
      change Sim l G Y_L_law lim _ _ 1822 [some (.inr (.inr 4000)), some (.inr (.inr x1)), some (.inr (.inr x2)), some (.inl x3)] [] M
      refine s_run (b := [(.aload_n 1, 1), (.aload_n 0, 1), (.iload_n 3, 1), (.iconst 1, 1), (.iadd, 1)]) 1827 [some (.inr (.inr 4000)), some (.inr (.inr x1)), some (.inr (.inr x2)), some (.inl x3)] [.inl (x3 + (1 : Int32)), .inr (.inr 4000), .inr (.inr x1)] (by decide +kernel) rfl ?_
      refine s_sc (by decide +kernel) (fun v300 => ?_)
      refine s_cV (Z := Y_X11_again) (c := 11) (vs := [.inl v300]) (st := []) (rO := fun z => some (.inl z.1)) (mO := fun z => z.2) zk_X11_again zi_X11_again q1307 rfl ⟨by decide, by decide⟩ ⟨rfl, rfl⟩ rfl rfl (Nat.le_of_ble_eq_true rfl) (by decide +kernel) (fun z hz => c_X11_again hz) (fun z301 => ?_)
      change Sim l G Y_L_law lim _ _ 1831 [some (.inr (.inr 4000)), some (.inr (.inr x1)), some (.inr (.inr x2)), some (.inl x3)] [.inl z301.1] z301.2
      refine s_run (b := [(.aload_n 2, 1), (.aload_n 0, 1), (.iload_n 3, 1), (.iconst 1, 1), (.iadd, 1)]) 1836 [some (.inr (.inr 4000)), some (.inr (.inr x1)), some (.inr (.inr x2)), some (.inl x3)] [.inl (x3 + (1 : Int32)), .inr (.inr 4000), .inr (.inr x2), .inl z301.1] (by decide +kernel) rfl ?_
      refine s_sc (by decide +kernel) (fun v302 => ?_)
      refine s_cV (Z := Y_X12_again) (c := 12) (vs := [.inl v302]) (st := [.inl z301.1]) (rO := fun z => some (.inl z.1)) (mO := fun z => z.2) zk_X12_again zi_X12_again q1935 rfl ⟨by decide, by decide⟩ ⟨rfl, rfl⟩ rfl rfl (Nat.le_of_ble_eq_true rfl) (by decide +kernel) (fun z hz => c_X12_again hz) (fun z303 => ?_)
      change Sim l G Y_L_law lim _ _ 1840 [some (.inr (.inr 4000)), some (.inr (.inr x1)), some (.inr (.inr x2)), some (.inl x3)] [.inl z303.1, .inl z301.1] z303.2
      refine s_ic_eq (tgt := 1845) (off := 5) (by decide +kernel) (by decide) (fun h304 => ?_) (fun h304 => ?_)
      · skip
        refine s_run (b := [(.iinc 3 6, 3), (.goto (-1830), 3)]) 18 [some (.inr (.inr 4000)), some (.inr (.inr x1)), some (.inr (.inr x2)), some (.inl (x3 + (6 : Int32)))] [] (by decide +kernel) rfl ?_
        exact s_lsub (ls' := [some (.inr (.inr 4000)), some (.inr (.inr x1)), some (.inr (.inr x2)), some (.inl (x3 + (6 : Int32)))]) ⟨rfl, ⟨rfl, ⟨rfl, ⟨rfl, trivial⟩⟩⟩⟩ (kk1 (x3 + (6 : Int32)) z303.2)
      · skip
        exact s_none
    refine s_tabOut (tgt := 1845) (dflt := 1812) (lo := 0) (hi := 38) (offs := #[171, 234, 257, 290, 313, 346, 389, 422, 475, 544, 567, 627, 687, 740, 774, 817, 860, 913, 972, 1015, 1064, 1113, 1172, 1205, 1238, 1271, 1294, 1337, 1380, 1439, 1482, 1525, 1558, 1618, 1641, 1694, 1743, 1766, 1789]) (len := 171) (by decide +kernel) (tab_out (fun k hk => by rcases (show k = 0 ∨ k = 1 ∨ k = 2 ∨ k = 3 ∨ k = 4 ∨ k = 5 ∨ k = 6 ∨ k = 7 ∨ k = 8 ∨ k = 9 ∨ k = 10 ∨ k = 11 ∨ k = 12 ∨ k = 13 ∨ k = 14 ∨ k = 15 ∨ k = 16 ∨ k = 17 ∨ k = 18 ∨ k = 19 ∨ k = 20 ∨ k = 21 ∨ k = 22 ∨ k = 23 ∨ k = 24 ∨ k = 25 ∨ k = 26 ∨ k = 27 ∨ k = 28 ∨ k = 29 ∨ k = 30 ∨ k = 31 ∨ k = 32 ∨ k = 33 ∨ k = 34 ∨ k = 35 ∨ k = 36 ∨ k = 37 ∨ k = 38 by omega) with rfl | rfl | rfl | rfl | rfl | rfl | rfl | rfl | rfl | rfl | rfl | rfl | rfl | rfl | rfl | rfl | rfl | rfl | rfl | rfl | rfl | rfl | rfl | rfl | rfl | rfl | rfl | rfl | rfl | rfl | rfl | rfl | rfl | rfl | rfl | rfl | rfl | rfl | rfl <;> first | exact i32_ne h3 (by decide) | exact i32_ne h17 (by decide) | exact i32_ne h23 (by decide) | exact i32_ne h31 (by decide) | exact i32_ne h37 (by decide) | exact i32_ne h45 (by decide) | exact i32_ne h55 (by decide) | exact i32_ne h63 (by decide) | exact i32_ne h75 (by decide) | exact i32_ne h81 (by decide) | exact i32_ne h87 (by decide) | exact i32_ne h92 (by decide) | exact i32_ne h97 (by decide) | exact i32_ne h109 (by decide) | exact i32_ne h117 (by decide) | exact i32_ne h127 (by decide) | exact i32_ne h137 (by decide) | exact i32_ne h149 (by decide) | exact i32_ne h154 (by decide) | exact i32_ne h164 (by decide) | exact i32_ne h168 (by decide) | exact i32_ne h172 (by decide) | exact i32_ne h177 (by decide) | exact i32_ne h185 (by decide) | exact i32_ne h193 (by decide) | exact i32_ne h201 (by decide) | exact i32_ne h207 (by decide) | exact i32_ne h217 (by decide) | exact i32_ne h227 (by decide) | exact i32_ne h232 (by decide) | exact i32_ne h242 (by decide) | exact i32_ne h252 (by decide) | exact i32_ne h260 (by decide) | exact i32_ne h265 (by decide) | exact i32_ne h271 (by decide) | exact i32_ne h283 (by decide) | exact i32_ne h287 (by decide) | exact i32_ne h293 (by decide) | exact i32_ne h299 (by decide))) (by decide) ?_
    change Sim l G Y_L_law lim _ _ 1845 [some (.inr (.inr 4000)), some (.inr (.inr x1)), some (.inr (.inr x2)), some (.inl x3)] [] M
    refine s_run (b := [(.iinc 3 6, 3), (.goto (-1830), 3)]) 18 [some (.inr (.inr 4000)), some (.inr (.inr x1)), some (.inr (.inr x2)), some (.inl (x3 + (6 : Int32)))] [] (by decide +kernel) rfl ?_
    exact s_lsub (ls' := [some (.inr (.inr 4000)), some (.inr (.inr x1)), some (.inr (.inr x2)), some (.inl (x3 + (6 : Int32)))]) ⟨rfl, ⟨rfl, ⟨rfl, ⟨rfl, trivial⟩⟩⟩⟩ (kk1 (x3 + (6 : Int32)) M)
set_option maxRecDepth 20000 in
theorem L_L_law_18 {l : Launch} {G : Gv} {lim : Nat × Nat} (M : Mem) (x1 : Nat) (x2 : Nat) (x3 : Int32) (K : ((Mem)) → Option (Option Value × Mem)) (kk2_0 : ∀ r : Mem, SimR l G Y_L_law lim (K r) 1851 [none, none, none, none] [] r) : Sim l G Y_L_law lim (f_L_law_L18 lim G.2.2.2.2 M x1 x2 x3) K 18 [some (.inr (.inr 4000)), some (.inr (.inr x1)), some (.inr (.inr x2)), some (.inl x3)] [] M :=
  s_iter (f := fun s : Int32 × Mem => f_L_law_B18 lim G.2.2.2.2 s.2 x1 x2 s.1) (hd := 18) (cl := fun s => [some (.inr (.inr 4000)), some (.inr (.inr x1)), some (.inr (.inr x2)), some (.inl s.1)]) (cm := fun s => s.2) (xp := fun _ => 1851) (xl := fun r => [none, none, none, none]) (xm := fun r => r) (fun s K h1 h2 => B_L_law_18 s.2 x1 x2 s.1 K (fun a3 a_ => h1 (a3, a_)) (fun a_ => h2 a_)) 1048576 (x3, M) K kk2_0
def f_L_law (lim : Nat × Nat) (X : List Int32) (M : Mem) : Option (Mem) :=
  (newS lim M (.inl 11)).bind fun z1 =>
  (ob z1.2 11 z1.1).bind fun _ => (rmS lim z1.2 253 8967).bind fun _ => (f_X11_init z1.2 z1.1).bind fun M2 =>
  (newS lim M2 (.inl 12)).bind fun z3 =>
  (ob z3.2 12 z3.1).bind fun _ => (rmS lim z3.2 14 7356).bind fun _ => (f_X12_init z3.2 z3.1).bind fun M4 =>
  (f_L_law_L18 lim X M4 z1.1 z3.1 (0 : Int32)).bind fun r5 =>
  some r5
set_option maxRecDepth 20000 in
theorem S_L_law {l : Launch} {G : Gv} {lim : Nat × Nat} (M : Mem) : Sim l G Y_L_law lim (f_L_law lim G.2.2.2.2 M) (fun z => some (some (.int 1), z)) 0 [some (.inr (.inr 4000)), none, none, none] [] M := by
  unfold f_L_law
  refine s_newZ (c := 11) rfl q21 q22 q1 (by decide +kernel) (fun z1 => ?_)
  refine s_run (b := [(.dup, 1)]) 4 [some (.inr (.inr 4000)), none, none, none] [.inr (.inr z1.1), .inr (.inr z1.1)] (by decide +kernel) rfl ?_
  refine s_cI (Z := Y_X11_init) (vs := []) (st := [.inr (.inr z1.1)]) zk_X11_init ⟨rfl, q24, rfl⟩ q23 ⟨by decide, by decide⟩ rfl rfl (Nat.le_of_ble_eq_true rfl) (by decide +kernel) (fun z hz => c_X11_init hz) (fun M2 => ?_)
  refine s_run (b := [(.astore_n 1, 1)]) 8 [some (.inr (.inr 4000)), some (.inr (.inr z1.1)), none, none] [] (by decide +kernel) rfl ?_
  refine s_newZ (c := 12) rfl q1311 q1312 q13 (by decide +kernel) (fun z3 => ?_)
  refine s_run (b := [(.dup, 1)]) 12 [some (.inr (.inr 4000)), some (.inr (.inr z1.1)), none, none] [.inr (.inr z3.1), .inr (.inr z3.1)] (by decide +kernel) rfl ?_
  refine s_cI (Z := Y_X12_init) (vs := []) (st := [.inr (.inr z3.1)]) zk_X12_init ⟨rfl, q1314, rfl⟩ q1313 ⟨by decide, by decide⟩ rfl rfl (Nat.le_of_ble_eq_true rfl) (by decide +kernel) (fun z hz => c_X12_init hz) (fun M4 => ?_)
  refine s_run (b := [(.astore_n 2, 1), (.iconst 0, 1), (.istore_n 3, 1)]) 18 [some (.inr (.inr 4000)), some (.inr (.inr z1.1)), some (.inr (.inr z3.1)), some (.inl (0 : Int32))] [] (by decide +kernel) rfl ?_
  refine s_lsub (ls' := [some (.inr (.inr 4000)), some (.inr (.inr z1.1)), some (.inr (.inr z3.1)), some (.inl (0 : Int32))]) ⟨rfl, ⟨rfl, ⟨rfl, ⟨rfl, trivial⟩⟩⟩⟩ ?_
  refine sim_bind (L_L_law_18 M4 z1.1 z3.1 (0 : Int32) _ (fun r5 => ?_))
  change Sim l G Y_L_law lim _ _ 1851 [none, none, none, none] [] r5
  refine s_run (b := [(.iconst 1, 1)]) 1852 [none, none, none, none] [.inl (1 : Int32)] (by decide +kernel) rfl ?_
  exact s_bret (Or.inr rfl) (by decide +kernel) rfl
