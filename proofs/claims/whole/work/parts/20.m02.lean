def f_X5_boardPlace_B4 (M : Mem) (x0 : Nat) (x1 : Int32) (x2 : Int32) : Option ((Int32 × Int32) ⊕ ((Int32))) :=
  (if (30 : Int32) < x2 then
    some (.inr x1)
  else
    (ob M 5 x0).bind fun _ => (f_X5_wayToCalls M x0 x2).bind fun v2 =>
    (ob M 5 x0).bind fun _ => (f_X5_wayToCalls M x0 x1).bind fun v3 =>
    (if v3 ≤ v2 then
      some (.inl (x1, (x2 + (1 : Int32))))
    else
      some (.inl (x2, (x2 + (1 : Int32))))))
def f_X5_boardPlace_L4 (M : Mem) (x0 : Nat) (x1 : Int32) (x2 : Int32) : Option ((Int32)) := iter (fun s : Int32 × Int32 => f_X5_boardPlace_B4 M x0 s.1 s.2) 1048576 (x1, x2)
set_option maxRecDepth 20000 in
theorem B_X5_boardPlace_4 {l : Launch} {G : Gv} {lim : Nat × Nat} (M : Mem) (x0 : Nat) (x1 : Int32) (x2 : Int32) (K : (Int32 × Int32) ⊕ ((Int32)) → Option (Option Value × Mem)) (kk1 : ∀ (s1 : Int32) (s2 : Int32), SimR l G Y_X5_boardPlace lim (K (.inl (s1, s2))) 4 [some (.inr (.inr x0)), some (.inl s1), some (.inl s2)] [] M) (kk2_0 : ∀ (s1 : Int32), SimR l G Y_X5_boardPlace lim (K (.inr s1)) 31 [none, some (.inl s1), none] [] M) : Sim l G Y_X5_boardPlace lim (f_X5_boardPlace_B4 M x0 x1 x2) K 4 [some (.inr (.inr x0)), some (.inl x1), some (.inl x2)] [] M := by
  unfold f_X5_boardPlace_B4
  refine s_run (b := [(.iload_n 2, 1), (.bipush 30, 2)]) 7 [some (.inr (.inr x0)), some (.inl x1), some (.inl x2)] [.inl (30 : Int32), .inl x2] (by decide +kernel) rfl ?_
  refine s_ic_gt (tgt := 31) (off := 24) (by decide +kernel) (by decide) (fun h1 => ?_) (fun h1 => ?_)
  · skip
    exact s_lsub (ls' := [none, some (.inl x1), none]) ⟨rfl, trivial⟩ (kk2_0 x1)
  · skip
    refine s_run (b := [(.aload_n 0, 1), (.iload_n 2, 1)]) 12 [some (.inr (.inr x0)), some (.inl x1), some (.inl x2)] [.inl x2, .inr (.inr x0)] (by decide +kernel) rfl ?_
    refine s_cV (Z := Y_X5_wayToCalls) (c := 5) (vs := [.inl x2]) (st := []) (rO := fun z => some (.inl z)) (mO := fun _ => M) zk_X5_wayToCalls zi_X5_wayToCalls q1102 rfl ⟨by decide, by decide⟩ ⟨rfl, rfl⟩ rfl rfl (Nat.le_of_ble_eq_true rfl) (by decide +kernel) (fun z hz => c_X5_wayToCalls hz) (fun v2 => ?_)
    change Sim l G Y_X5_boardPlace lim _ _ 15 [some (.inr (.inr x0)), some (.inl x1), some (.inl x2)] [.inl v2] M
    refine s_run (b := [(.aload_n 0, 1), (.iload_n 1, 1)]) 17 [some (.inr (.inr x0)), some (.inl x1), some (.inl x2)] [.inl x1, .inr (.inr x0), .inl v2] (by decide +kernel) rfl ?_
    refine s_cV (Z := Y_X5_wayToCalls) (c := 5) (vs := [.inl x1]) (st := [.inl v2]) (rO := fun z => some (.inl z)) (mO := fun _ => M) zk_X5_wayToCalls zi_X5_wayToCalls q1102 rfl ⟨by decide, by decide⟩ ⟨rfl, rfl⟩ rfl rfl (Nat.le_of_ble_eq_true rfl) (by decide +kernel) (fun z hz => c_X5_wayToCalls hz) (fun v3 => ?_)
    change Sim l G Y_X5_boardPlace lim _ _ 20 [some (.inr (.inr x0)), some (.inl x1), some (.inl x2)] [.inl v3, .inl v2] M
    refine s_ic_ge (tgt := 25) (off := 5) (by decide +kernel) (by decide) (fun h4 => ?_) (fun h4 => ?_)
    · skip
      refine s_run (b := [(.iinc 2 1, 3), (.goto (-24), 3)]) 4 [some (.inr (.inr x0)), some (.inl x1), some (.inl (x2 + (1 : Int32)))] [] (by decide +kernel) rfl ?_
      exact s_lsub (ls' := [some (.inr (.inr x0)), some (.inl x1), some (.inl (x2 + (1 : Int32)))]) ⟨rfl, ⟨rfl, ⟨rfl, trivial⟩⟩⟩ (kk1 x1 (x2 + (1 : Int32)))
    · skip
      refine s_run (b := [(.iload_n 2, 1), (.istore_n 1, 1), (.iinc 2 1, 3), (.goto (-24), 3)]) 4 [some (.inr (.inr x0)), some (.inl x2), some (.inl (x2 + (1 : Int32)))] [] (by decide +kernel) rfl ?_
      exact s_lsub (ls' := [some (.inr (.inr x0)), some (.inl x2), some (.inl (x2 + (1 : Int32)))]) ⟨rfl, ⟨rfl, ⟨rfl, trivial⟩⟩⟩ (kk1 x2 (x2 + (1 : Int32)))
set_option maxRecDepth 20000 in
theorem L_X5_boardPlace_4 {l : Launch} {G : Gv} {lim : Nat × Nat} (M : Mem) (x0 : Nat) (x1 : Int32) (x2 : Int32) (K : ((Int32)) → Option (Option Value × Mem)) (kk2_0 : ∀ r : Int32, SimR l G Y_X5_boardPlace lim (K r) 31 [none, some (.inl r), none] [] M) : Sim l G Y_X5_boardPlace lim (f_X5_boardPlace_L4 M x0 x1 x2) K 4 [some (.inr (.inr x0)), some (.inl x1), some (.inl x2)] [] M :=
  s_iter (f := fun s : Int32 × Int32 => f_X5_boardPlace_B4 M x0 s.1 s.2) (hd := 4) (cl := fun s => [some (.inr (.inr x0)), some (.inl s.1), some (.inl s.2)]) (cm := fun s => M) (xp := fun _ => 31) (xl := fun r => [none, some (.inl r), none]) (xm := fun r => M) (fun s K h1 h2 => B_X5_boardPlace_4 M x0 s.1 s.2 K (fun a1 a2 => h1 (a1, a2)) (fun a1 => h2 a1)) 1048576 (x1, x2) K kk2_0
def f_X5_boardPlace (M : Mem) (x0 : Nat) : Option (Int32) :=
  (f_X5_boardPlace_L4 M x0 (0 : Int32) (1 : Int32)).bind fun r1 =>
  some r1
set_option maxRecDepth 20000 in
theorem S_X5_boardPlace {l : Launch} {G : Gv} {lim : Nat × Nat} (M : Mem) (x0 : Nat) : Sim l G Y_X5_boardPlace lim (f_X5_boardPlace M x0) (fun z => some (some (.int z), M)) 0 [some (.inr (.inr x0)), none, none] [] M := by
  unfold f_X5_boardPlace
  refine s_run (b := [(.iconst 0, 1), (.istore_n 1, 1), (.iconst 1, 1), (.istore_n 2, 1)]) 4 [some (.inr (.inr x0)), some (.inl (0 : Int32)), some (.inl (1 : Int32))] [] (by decide +kernel) rfl ?_
  refine s_lsub (ls' := [some (.inr (.inr x0)), some (.inl (0 : Int32)), some (.inl (1 : Int32))]) ⟨rfl, ⟨rfl, ⟨rfl, trivial⟩⟩⟩ ?_
  refine sim_bind (L_X5_boardPlace_4 M x0 (0 : Int32) (1 : Int32) _ (fun r1 => ?_))
  change Sim l G Y_X5_boardPlace lim _ _ 31 [none, some (.inl r1), none] [] M
  refine s_run (b := [(.iload_n 1, 1)]) 32 [none, some (.inl r1), none] [.inl r1] (by decide +kernel) rfl ?_
  exact s_iret (by decide +kernel) rfl
set_option maxRecDepth 20000 in
theorem c_X5_boardPlace {l : Launch} {G : Gv} {M : Mem} {x0 : Nat} {z : Int32} (h : f_X5_boardPlace M x0 = some z) : MetS l G Y_X5_boardPlace [.inr (.inr x0)] M (some (.int z)) M :=
  met_of (ls0 := [some (.inr (.inr x0)), none, none]) (by decide) rfl (lv_in (m := 2) rfl) (sl_le (Nat.le_of_ble_eq_true rfl)) (by rw [h]; rfl) (Or.inl ⟨rfl, rfl⟩) (S_X5_boardPlace M x0)
def f_X11_board (M : Mem) (x0 : Nat) (x1 : Int32) (x2 : Int32) : Option (Int32) :=
  (gR M 11 x0 0).bind fun v1 =>
  (ob M 9 v1).bind fun _ => (f_X9_officeAt M v1 x1).bind fun v2 =>
  (if v2 = 0 then
    some (-1 : Int32)
  else
    (ob M 5 v2).bind fun _ => (f_X5_boardPlace M v2).bind fun v4 =>
    (if x2 = 0 then
      some v4
    else
      (ob M 5 v2).bind fun _ => (f_X5_wayToCalls M v2 v4).bind fun v6 =>
      some v6))
set_option maxRecDepth 20000 in
theorem S_X11_board {l : Launch} {G : Gv} {lim : Nat × Nat} (M : Mem) (x0 : Nat) (x1 : Int32) (x2 : Int32) : Sim l G Y_X11_board lim (f_X11_board M x0 x1 x2) (fun z => some (some (.int z), M)) 0 [some (.inr (.inr x0)), some (.inl x1), some (.inl x2), none, none] [] M := by
  unfold f_X11_board
  refine s_run (b := [(.aload_n 0, 1)]) 1 [some (.inr (.inr x0)), some (.inl x1), some (.inl x2), none, none] [.inr (.inr x0)] (by decide +kernel) rfl ?_
  refine s_gR fl_11_10 rfl (by decide +kernel) (fun v1 => ?_)
  refine s_run (b := [(.iload_n 1, 1)]) 5 [some (.inr (.inr x0)), some (.inl x1), some (.inl x2), none, none] [.inl x1, .inr (.inr v1)] (by decide +kernel) rfl ?_
  refine s_cV (Z := Y_X9_officeAt) (c := 9) (vs := [.inl x1]) (st := []) (rO := fun z => some (.inr (.inr z))) (mO := fun _ => M) zk_X9_officeAt zi_X9_officeAt q716 rfl ⟨by decide, by decide⟩ ⟨rfl, rfl⟩ rfl rfl (Nat.le_of_ble_eq_true rfl) (by decide +kernel) (fun z hz => c_X9_officeAt hz) (fun v2 => ?_)
  change Sim l G Y_X11_board lim _ _ 8 [some (.inr (.inr x0)), some (.inl x1), some (.inl x2), none, none] [.inr (.inr v2)] M
  refine s_run (b := [(.astore_n 3, 1), (.aload_n 3, 1)]) 10 [some (.inr (.inr x0)), some (.inl x1), some (.inl x2), some (.inr (.inr v2)), none] [.inr (.inr v2)] (by decide +kernel) rfl ?_
  refine s_ifnonnull (tgt := 15) (off := 5) (by decide +kernel) (by decide) (fun h3 => ?_) (fun h3 => ?_)
  · skip
    refine s_run (b := [(.iconst (-1), 1)]) 14 [some (.inr (.inr x0)), some (.inl x1), some (.inl x2), some (.inr (.inr v2)), none] [.inl (-1 : Int32)] (by decide +kernel) rfl ?_
    exact s_iret (by decide +kernel) rfl
  · skip
    refine s_run (b := [(.aload_n 3, 1)]) 16 [some (.inr (.inr x0)), some (.inl x1), some (.inl x2), some (.inr (.inr v2)), none] [.inr (.inr v2)] (by decide +kernel) rfl ?_
    refine s_cV (Z := Y_X5_boardPlace) (c := 5) (vs := []) (st := []) (rO := fun z => some (.inl z)) (mO := fun _ => M) zk_X5_boardPlace zi_X5_boardPlace q1098 rfl ⟨by decide, by decide⟩ ⟨rfl, rfl⟩ rfl rfl (Nat.le_of_ble_eq_true rfl) (by decide +kernel) (fun z hz => c_X5_boardPlace hz) (fun v4 => ?_)
    change Sim l G Y_X11_board lim _ _ 19 [some (.inr (.inr x0)), some (.inl x1), some (.inl x2), some (.inr (.inr v2)), none] [.inl v4] M
    refine s_run (b := [(.istore 4, 2), (.iload_n 2, 1)]) 22 [some (.inr (.inr x0)), some (.inl x1), some (.inl x2), some (.inr (.inr v2)), some (.inl v4)] [.inl x2] (by decide +kernel) rfl ?_
    refine s_if_eq (tgt := 34) (off := 12) (by decide +kernel) (by decide) (fun h5 => ?_) (fun h5 => ?_)
    · skip
      refine s_run (b := [(.iload 4, 2)]) 36 [some (.inr (.inr x0)), some (.inl x1), some (.inl x2), some (.inr (.inr v2)), some (.inl v4)] [.inl v4] (by decide +kernel) rfl ?_
      exact s_iret (by decide +kernel) rfl
    · skip
      refine s_run (b := [(.aload_n 3, 1), (.iload 4, 2)]) 28 [some (.inr (.inr x0)), some (.inl x1), some (.inl x2), some (.inr (.inr v2)), some (.inl v4)] [.inl v4, .inr (.inr v2)] (by decide +kernel) rfl ?_
      refine s_cV (Z := Y_X5_wayToCalls) (c := 5) (vs := [.inl v4]) (st := []) (rO := fun z => some (.inl z)) (mO := fun _ => M) zk_X5_wayToCalls zi_X5_wayToCalls q1106 rfl ⟨by decide, by decide⟩ ⟨rfl, rfl⟩ rfl rfl (Nat.le_of_ble_eq_true rfl) (by decide +kernel) (fun z hz => c_X5_wayToCalls hz) (fun v6 => ?_)
      change Sim l G Y_X11_board lim _ _ 31 [some (.inr (.inr x0)), some (.inl x1), some (.inl x2), some (.inr (.inr v2)), some (.inl v4)] [.inl v6] M
      refine s_run (b := [(.goto 5, 3)]) 36 [some (.inr (.inr x0)), some (.inl x1), some (.inl x2), some (.inr (.inr v2)), some (.inl v4)] [.inl v6] (by decide +kernel) rfl ?_
      exact s_iret (by decide +kernel) rfl
set_option maxRecDepth 20000 in
theorem c_X11_board {l : Launch} {G : Gv} {M : Mem} {x0 : Nat} {x1 : Int32} {x2 : Int32} {z : Int32} (h : f_X11_board M x0 x1 x2 = some z) : MetS l G Y_X11_board [.inr (.inr x0), .inl x1, .inl x2] M (some (.int z)) M :=
  met_of (ls0 := [some (.inr (.inr x0)), some (.inl x1), some (.inl x2), none, none]) (by decide) rfl (lv_in (m := 2) rfl) (sl_le (Nat.le_of_ble_eq_true rfl)) (by rw [h]; rfl) (Or.inl ⟨rfl, rfl⟩) (S_X11_board M x0 x1 x2)
def f_X0_layRow_J45 (M : Mem) (x0 : Nat) (x1 : Nat) (x2 : Int32) (x3 : Int32) (x4 : Int32) (x5 : Int32) (x6 : Int32) (y0 : Int32) : Option ((Int32 × Int32) ⊕ ((Int32))) :=
  (if y0 = 0 then
    some (.inl (x5, (x6 + (1 : Int32))))
  else
    (if x5 = (-1 : Int32) then
      some (.inl (x6, (x6 + (1 : Int32))))
    else
      (if x3 = 0 then
        (gR M 5 x1 9).bind fun v4 =>
        (aI M 0 v4 x6).bind fun v5 =>
        (gR M 5 x1 9).bind fun v6 =>
        (aI M 0 v6 x5).bind fun v7 =>
        (if v5 ≤ v7 then
          some (.inl (x5, (x6 + (1 : Int32))))
        else
          some (.inl (x6, (x6 + (1 : Int32)))))
      else
        some (.inl (x5, (x6 + (1 : Int32)))))))
set_option maxRecDepth 20000 in
theorem J_X0_layRow_45 {l : Launch} {G : Gv} {lim : Nat × Nat} (M : Mem) (x0 : Nat) (x1 : Nat) (x2 : Int32) (x3 : Int32) (x4 : Int32) (x5 : Int32) (x6 : Int32) (y0 : Int32) (K : (Int32 × Int32) ⊕ ((Int32)) → Option (Option Value × Mem)) (kk1 : ∀ (s5 : Int32) (s6 : Int32), SimR l G Y_X0_layRow lim (K (.inl (s5, s6))) 22 [some (.inr (.inr x0)), some (.inr (.inr x1)), some (.inl x2), some (.inl x3), some (.inl x4), some (.inl s5), some (.inl s6), none] [] M) (kk2_0 : ∀ (s5 : Int32), SimR l G Y_X0_layRow lim (K (.inr s5)) 89 [some (.inr (.inr x0)), some (.inr (.inr x1)), some (.inl x2), some (.inl x3), some (.inl x4), some (.inl s5), none, none] [] M) : Sim l G Y_X0_layRow lim (f_X0_layRow_J45 M x0 x1 x2 x3 x4 x5 x6 y0) K 45 [some (.inr (.inr x0)), some (.inr (.inr x1)), some (.inl x2), some (.inl x3), some (.inl x4), some (.inl x5), some (.inl x6), none] [.inl y0] M := by
  unfold f_X0_layRow_J45
  refine s_run (b := [(.istore 7, 2), (.iload 7, 2)]) 49 [some (.inr (.inr x0)), some (.inr (.inr x1)), some (.inl x2), some (.inl x3), some (.inl x4), some (.inl x5), some (.inl x6), some (.inl y0)] [.inl y0] (by decide +kernel) rfl ?_
  refine s_if_eq (tgt := 83) (off := 34) (by decide +kernel) (by decide) (fun h1 => ?_) (fun h1 => ?_)
  · skip
    refine s_run (b := [(.iinc 6 1, 3), (.goto (-64), 3)]) 22 [some (.inr (.inr x0)), some (.inr (.inr x1)), some (.inl x2), some (.inl x3), some (.inl x4), some (.inl x5), some (.inl (x6 + (1 : Int32))), some (.inl y0)] [] (by decide +kernel) rfl ?_
    exact s_lsub (ls' := [some (.inr (.inr x0)), some (.inr (.inr x1)), some (.inl x2), some (.inl x3), some (.inl x4), some (.inl x5), some (.inl (x6 + (1 : Int32))), none]) ⟨rfl, ⟨rfl, ⟨rfl, ⟨rfl, ⟨rfl, ⟨rfl, ⟨rfl, trivial⟩⟩⟩⟩⟩⟩⟩ (kk1 x5 (x6 + (1 : Int32)))
  · skip
    refine s_run (b := [(.iload 5, 2), (.iconst (-1), 1)]) 55 [some (.inr (.inr x0)), some (.inr (.inr x1)), some (.inl x2), some (.inl x3), some (.inl x4), some (.inl x5), some (.inl x6), some (.inl y0)] [.inl (-1 : Int32), .inl x5] (by decide +kernel) rfl ?_
    refine s_ic_eq (tgt := 79) (off := 24) (by decide +kernel) (by decide) (fun h2 => ?_) (fun h2 => ?_)
    · skip
      refine s_run (b := [(.iload 6, 2), (.istore 5, 2), (.iinc 6 1, 3), (.goto (-64), 3)]) 22 [some (.inr (.inr x0)), some (.inr (.inr x1)), some (.inl x2), some (.inl x3), some (.inl x4), some (.inl x6), some (.inl (x6 + (1 : Int32))), some (.inl y0)] [] (by decide +kernel) rfl ?_
      exact s_lsub (ls' := [some (.inr (.inr x0)), some (.inr (.inr x1)), some (.inl x2), some (.inl x3), some (.inl x4), some (.inl x6), some (.inl (x6 + (1 : Int32))), none]) ⟨rfl, ⟨rfl, ⟨rfl, ⟨rfl, ⟨rfl, ⟨rfl, ⟨rfl, trivial⟩⟩⟩⟩⟩⟩⟩ (kk1 x6 (x6 + (1 : Int32)))
    · skip
      refine s_run (b := [(.iload_n 3, 1)]) 59 [some (.inr (.inr x0)), some (.inr (.inr x1)), some (.inl x2), some (.inl x3), some (.inl x4), some (.inl x5), some (.inl x6), some (.inl y0)] [.inl x3] (by decide +kernel) rfl ?_
      refine s_if_ne (tgt := 83) (off := 24) (by decide +kernel) (by decide) (fun h3 => ?_) (fun h3 => ?_)
      · skip
        refine s_run (b := [(.aload_n 1, 1)]) 63 [some (.inr (.inr x0)), some (.inr (.inr x1)), some (.inl x2), some (.inl x3), some (.inl x4), some (.inl x5), some (.inl x6), some (.inl y0)] [.inr (.inr x1)] (by decide +kernel) rfl ?_
        refine s_gR fl_0_83 rfl (by decide +kernel) (fun v4 => ?_)
        refine s_run (b := [(.iload 6, 2)]) 68 [some (.inr (.inr x0)), some (.inr (.inr x1)), some (.inl x2), some (.inl x3), some (.inl x4), some (.inl x5), some (.inl x6), some (.inl y0)] [.inl x6, .inr (.inr v4)] (by decide +kernel) rfl ?_
        refine s_ia (by decide +kernel) (fun v5 => ?_)
        refine s_run (b := [(.aload_n 1, 1)]) 70 [some (.inr (.inr x0)), some (.inr (.inr x1)), some (.inl x2), some (.inl x3), some (.inl x4), some (.inl x5), some (.inl x6), some (.inl y0)] [.inr (.inr x1), .inl v5] (by decide +kernel) rfl ?_
        refine s_gR fl_0_83 rfl (by decide +kernel) (fun v6 => ?_)
        refine s_run (b := [(.iload 5, 2)]) 75 [some (.inr (.inr x0)), some (.inr (.inr x1)), some (.inl x2), some (.inl x3), some (.inl x4), some (.inl x5), some (.inl x6), some (.inl y0)] [.inl x5, .inr (.inr v6), .inl v5] (by decide +kernel) rfl ?_
        refine s_ia (by decide +kernel) (fun v7 => ?_)
        refine s_ic_le (tgt := 83) (off := 7) (by decide +kernel) (by decide) (fun h8 => ?_) (fun h8 => ?_)
        · skip
          refine s_run (b := [(.iinc 6 1, 3), (.goto (-64), 3)]) 22 [some (.inr (.inr x0)), some (.inr (.inr x1)), some (.inl x2), some (.inl x3), some (.inl x4), some (.inl x5), some (.inl (x6 + (1 : Int32))), some (.inl y0)] [] (by decide +kernel) rfl ?_
          exact s_lsub (ls' := [some (.inr (.inr x0)), some (.inr (.inr x1)), some (.inl x2), some (.inl x3), some (.inl x4), some (.inl x5), some (.inl (x6 + (1 : Int32))), none]) ⟨rfl, ⟨rfl, ⟨rfl, ⟨rfl, ⟨rfl, ⟨rfl, ⟨rfl, trivial⟩⟩⟩⟩⟩⟩⟩ (kk1 x5 (x6 + (1 : Int32)))
        · skip
          refine s_run (b := [(.iload 6, 2), (.istore 5, 2), (.iinc 6 1, 3), (.goto (-64), 3)]) 22 [some (.inr (.inr x0)), some (.inr (.inr x1)), some (.inl x2), some (.inl x3), some (.inl x4), some (.inl x6), some (.inl (x6 + (1 : Int32))), some (.inl y0)] [] (by decide +kernel) rfl ?_
          exact s_lsub (ls' := [some (.inr (.inr x0)), some (.inr (.inr x1)), some (.inl x2), some (.inl x3), some (.inl x4), some (.inl x6), some (.inl (x6 + (1 : Int32))), none]) ⟨rfl, ⟨rfl, ⟨rfl, ⟨rfl, ⟨rfl, ⟨rfl, ⟨rfl, trivial⟩⟩⟩⟩⟩⟩⟩ (kk1 x6 (x6 + (1 : Int32)))
      · skip
        refine s_run (b := [(.iinc 6 1, 3), (.goto (-64), 3)]) 22 [some (.inr (.inr x0)), some (.inr (.inr x1)), some (.inl x2), some (.inl x3), some (.inl x4), some (.inl x5), some (.inl (x6 + (1 : Int32))), some (.inl y0)] [] (by decide +kernel) rfl ?_
        exact s_lsub (ls' := [some (.inr (.inr x0)), some (.inr (.inr x1)), some (.inl x2), some (.inl x3), some (.inl x4), some (.inl x5), some (.inl (x6 + (1 : Int32))), none]) ⟨rfl, ⟨rfl, ⟨rfl, ⟨rfl, ⟨rfl, ⟨rfl, ⟨rfl, trivial⟩⟩⟩⟩⟩⟩⟩ (kk1 x5 (x6 + (1 : Int32)))
def f_X0_layRow_B22 (M : Mem) (x0 : Nat) (x1 : Nat) (x2 : Int32) (x3 : Int32) (x4 : Int32) (x5 : Int32) (x6 : Int32) : Option ((Int32 × Int32) ⊕ ((Int32))) :=
  (gI M 5 x1 0).bind fun v1 =>
  (if v1 ≤ x6 then
    some (.inr x5)
  else
    (if ((x2 >>> (x6 &&& 31)) &&& (1 : Int32)) = 0 then
      f_X0_layRow_J45 M x0 x1 x2 x3 x4 x5 x6 (1 : Int32)
    else
      f_X0_layRow_J45 M x0 x1 x2 x3 x4 x5 x6 (0 : Int32)))
def f_X0_layRow_L22 (M : Mem) (x0 : Nat) (x1 : Nat) (x2 : Int32) (x3 : Int32) (x4 : Int32) (x5 : Int32) (x6 : Int32) : Option ((Int32)) := iter (fun s : Int32 × Int32 => f_X0_layRow_B22 M x0 x1 x2 x3 x4 s.1 s.2) 1048576 (x5, x6)
set_option maxRecDepth 20000 in
theorem B_X0_layRow_22 {l : Launch} {G : Gv} {lim : Nat × Nat} (M : Mem) (x0 : Nat) (x1 : Nat) (x2 : Int32) (x3 : Int32) (x4 : Int32) (x5 : Int32) (x6 : Int32) (K : (Int32 × Int32) ⊕ ((Int32)) → Option (Option Value × Mem)) (kk1 : ∀ (s5 : Int32) (s6 : Int32), SimR l G Y_X0_layRow lim (K (.inl (s5, s6))) 22 [some (.inr (.inr x0)), some (.inr (.inr x1)), some (.inl x2), some (.inl x3), some (.inl x4), some (.inl s5), some (.inl s6), none] [] M) (kk2_0 : ∀ (s5 : Int32), SimR l G Y_X0_layRow lim (K (.inr s5)) 89 [some (.inr (.inr x0)), some (.inr (.inr x1)), some (.inl x2), some (.inl x3), some (.inl x4), some (.inl s5), none, none] [] M) : Sim l G Y_X0_layRow lim (f_X0_layRow_B22 M x0 x1 x2 x3 x4 x5 x6) K 22 [some (.inr (.inr x0)), some (.inr (.inr x1)), some (.inl x2), some (.inl x3), some (.inl x4), some (.inl x5), some (.inl x6), none] [] M := by
  unfold f_X0_layRow_B22
  refine s_run (b := [(.iload 6, 2), (.aload_n 1, 1)]) 25 [some (.inr (.inr x0)), some (.inr (.inr x1)), some (.inl x2), some (.inl x3), some (.inl x4), some (.inl x5), some (.inl x6), none] [.inr (.inr x1), .inl x6] (by decide +kernel) rfl ?_
  refine s_gI fl_0_61 rfl (by decide +kernel) (fun v1 => ?_)
  refine s_ic_ge (tgt := 89) (off := 61) (by decide +kernel) (by decide) (fun h2 => ?_) (fun h2 => ?_)
  · skip
    exact s_lsub (ls' := [some (.inr (.inr x0)), some (.inr (.inr x1)), some (.inl x2), some (.inl x3), some (.inl x4), some (.inl x5), none, none]) ⟨rfl, ⟨rfl, ⟨rfl, ⟨rfl, ⟨rfl, ⟨rfl, trivial⟩⟩⟩⟩⟩⟩ (kk2_0 x5)
  · skip
    refine s_run (b := [(.iload_n 2, 1), (.iload 6, 2), (.ishr, 1), (.iconst 1, 1), (.iand, 1)]) 37 [some (.inr (.inr x0)), some (.inr (.inr x1)), some (.inl x2), some (.inl x3), some (.inl x4), some (.inl x5), some (.inl x6), none] [.inl ((x2 >>> (x6 &&& 31)) &&& (1 : Int32))] (by decide +kernel) rfl ?_
    refine s_if_ne (tgt := 44) (off := 7) (by decide +kernel) (by decide) (fun h3 => ?_) (fun h3 => ?_)
    · skip
      refine s_run (b := [(.iconst 1, 1), (.goto 4, 3)]) 45 [some (.inr (.inr x0)), some (.inr (.inr x1)), some (.inl x2), some (.inl x3), some (.inl x4), some (.inl x5), some (.inl x6), none] [.inl (1 : Int32)] (by decide +kernel) rfl ?_
      exact s_lsub (ls' := [some (.inr (.inr x0)), some (.inr (.inr x1)), some (.inl x2), some (.inl x3), some (.inl x4), some (.inl x5), some (.inl x6), none]) ⟨rfl, ⟨rfl, ⟨rfl, ⟨rfl, ⟨rfl, ⟨rfl, ⟨rfl, trivial⟩⟩⟩⟩⟩⟩⟩ (J_X0_layRow_45 M x0 x1 x2 x3 x4 x5 x6 (1 : Int32) K kk1 kk2_0)
    · skip
      refine s_run (b := [(.iconst 0, 1)]) 45 [some (.inr (.inr x0)), some (.inr (.inr x1)), some (.inl x2), some (.inl x3), some (.inl x4), some (.inl x5), some (.inl x6), none] [.inl (0 : Int32)] (by decide +kernel) rfl ?_
      exact s_lsub (ls' := [some (.inr (.inr x0)), some (.inr (.inr x1)), some (.inl x2), some (.inl x3), some (.inl x4), some (.inl x5), some (.inl x6), none]) ⟨rfl, ⟨rfl, ⟨rfl, ⟨rfl, ⟨rfl, ⟨rfl, ⟨rfl, trivial⟩⟩⟩⟩⟩⟩⟩ (J_X0_layRow_45 M x0 x1 x2 x3 x4 x5 x6 (0 : Int32) K kk1 kk2_0)
set_option maxRecDepth 20000 in
theorem L_X0_layRow_22 {l : Launch} {G : Gv} {lim : Nat × Nat} (M : Mem) (x0 : Nat) (x1 : Nat) (x2 : Int32) (x3 : Int32) (x4 : Int32) (x5 : Int32) (x6 : Int32) (K : ((Int32)) → Option (Option Value × Mem)) (kk2_0 : ∀ r : Int32, SimR l G Y_X0_layRow lim (K r) 89 [some (.inr (.inr x0)), some (.inr (.inr x1)), some (.inl x2), some (.inl x3), some (.inl x4), some (.inl r), none, none] [] M) : Sim l G Y_X0_layRow lim (f_X0_layRow_L22 M x0 x1 x2 x3 x4 x5 x6) K 22 [some (.inr (.inr x0)), some (.inr (.inr x1)), some (.inl x2), some (.inl x3), some (.inl x4), some (.inl x5), some (.inl x6), none] [] M :=
  s_iter (f := fun s : Int32 × Int32 => f_X0_layRow_B22 M x0 x1 x2 x3 x4 s.1 s.2) (hd := 22) (cl := fun s => [some (.inr (.inr x0)), some (.inr (.inr x1)), some (.inl x2), some (.inl x3), some (.inl x4), some (.inl s.1), some (.inl s.2), none]) (cm := fun s => M) (xp := fun _ => 89) (xl := fun r => [some (.inr (.inr x0)), some (.inr (.inr x1)), some (.inl x2), some (.inl x3), some (.inl x4), some (.inl r), none, none]) (xm := fun r => M) (fun s K h1 h2 => B_X0_layRow_22 M x0 x1 x2 x3 x4 s.1 s.2 K (fun a5 a6 => h1 (a5, a6)) (fun a5 => h2 a5)) 1048576 (x5, x6) K kk2_0
def f_X0_layRow_B7 (M : Mem) (x0 : Nat) (x1 : Nat) (x2 : Int32) (x3 : Int32) (x4 : Int32) : Option ((Int32 × Int32 × Int32 × Mem) ⊕ ((Mem) ⊕ (Mem))) :=
  (gI M 5 x1 0).bind fun v1 =>
  (if v1 ≤ x4 then
    some (.inr (.inr M))
  else
    (f_X0_layRow_L22 M x0 x1 x2 x3 x4 (-1 : Int32) (0 : Int32)).bind fun r3 =>
    (if r3 = (-1 : Int32) then
      some (.inr (.inl M))
    else
      (gR M 0 x0 2).bind fun v5 =>
      (sI M 0 v5 x4 r3).bind fun M6 =>
      (if x3 = 0 then
        (gR M6 5 x1 9).bind fun v8 =>
        (aI M6 0 v8 r3).bind fun v9 =>
        (if v9 = (10 : Int32) then
          some (.inl ((x2 ||| ((1 : Int32) <<< (r3 &&& 31))), (1 : Int32), (x4 + (1 : Int32)), M6))
        else
          some (.inl ((x2 ||| ((1 : Int32) <<< (r3 &&& 31))), (0 : Int32), (x4 + (1 : Int32)), M6)))
      else
        some (.inl ((x2 ||| ((1 : Int32) <<< (r3 &&& 31))), (1 : Int32), (x4 + (1 : Int32)), M6)))))
def f_X0_layRow_L7 (M : Mem) (x0 : Nat) (x1 : Nat) (x2 : Int32) (x3 : Int32) (x4 : Int32) : Option ((Mem) ⊕ (Mem)) := iter (fun s : Int32 × Int32 × Int32 × Mem => f_X0_layRow_B7 s.2.2.2 x0 x1 s.1 s.2.1 s.2.2.1) 1048576 (x2, x3, x4, M)
set_option maxRecDepth 20000 in
theorem B_X0_layRow_7 {l : Launch} {G : Gv} {lim : Nat × Nat} (M : Mem) (x0 : Nat) (x1 : Nat) (x2 : Int32) (x3 : Int32) (x4 : Int32) (K : (Int32 × Int32 × Int32 × Mem) ⊕ ((Mem) ⊕ (Mem)) → Option (Option Value × Mem)) (kk1 : ∀ (s2 : Int32) (s3 : Int32) (s4 : Int32) (s_ : Mem), SimR l G Y_X0_layRow lim (K (.inl (s2, s3, s4, s_))) 7 [some (.inr (.inr x0)), some (.inr (.inr x1)), some (.inl s2), some (.inl s3), some (.inl s4), none, none, none] [] s_) (kk2_0 : ∀ (s_ : Mem), SimR l G Y_X0_layRow lim (K (.inr (.inl s_))) 95 [none, none, none, none, none, none, none, none] [] s_) (kk2_1 : ∀ (s_ : Mem), SimR l G Y_X0_layRow lim (K (.inr (.inr s_))) 140 [none, none, none, none, none, none, none, none] [] s_) : Sim l G Y_X0_layRow lim (f_X0_layRow_B7 M x0 x1 x2 x3 x4) K 7 [some (.inr (.inr x0)), some (.inr (.inr x1)), some (.inl x2), some (.inl x3), some (.inl x4), none, none, none] [] M := by
  unfold f_X0_layRow_B7
  refine s_run (b := [(.iload 4, 2), (.aload_n 1, 1)]) 10 [some (.inr (.inr x0)), some (.inr (.inr x1)), some (.inl x2), some (.inl x3), some (.inl x4), none, none, none] [.inr (.inr x1), .inl x4] (by decide +kernel) rfl ?_
  refine s_gI fl_0_61 rfl (by decide +kernel) (fun v1 => ?_)
  refine s_ic_ge (tgt := 140) (off := 127) (by decide +kernel) (by decide) (fun h2 => ?_) (fun h2 => ?_)
  · skip
    exact s_lsub (ls' := [none, none, none, none, none, none, none, none]) trivial (kk2_1 M)
  · skip
    refine s_run (b := [(.iconst (-1), 1), (.istore 5, 2), (.iconst 0, 1), (.istore 6, 2)]) 22 [some (.inr (.inr x0)), some (.inr (.inr x1)), some (.inl x2), some (.inl x3), some (.inl x4), some (.inl (-1 : Int32)), some (.inl (0 : Int32)), none] [] (by decide +kernel) rfl ?_
    refine s_lsub (ls' := [some (.inr (.inr x0)), some (.inr (.inr x1)), some (.inl x2), some (.inl x3), some (.inl x4), some (.inl (-1 : Int32)), some (.inl (0 : Int32)), none]) ⟨rfl, ⟨rfl, ⟨rfl, ⟨rfl, ⟨rfl, ⟨rfl, ⟨rfl, trivial⟩⟩⟩⟩⟩⟩⟩ ?_
    refine sim_bind (L_X0_layRow_22 M x0 x1 x2 x3 x4 (-1 : Int32) (0 : Int32) _ (fun r3 => ?_))
    change Sim l G Y_X0_layRow lim _ _ 89 [some (.inr (.inr x0)), some (.inr (.inr x1)), some (.inl x2), some (.inl x3), some (.inl x4), some (.inl r3), none, none] [] M
    refine s_run (b := [(.iload 5, 2), (.iconst (-1), 1)]) 92 [some (.inr (.inr x0)), some (.inr (.inr x1)), some (.inl x2), some (.inl x3), some (.inl x4), some (.inl r3), none, none] [.inl (-1 : Int32), .inl r3] (by decide +kernel) rfl ?_
    refine s_ic_ne (tgt := 96) (off := 4) (by decide +kernel) (by decide) (fun h4 => ?_) (fun h4 => ?_)
    · skip
      exact s_lsub (ls' := [none, none, none, none, none, none, none, none]) trivial (kk2_0 M)
    · skip
      refine s_run (b := [(.aload_n 0, 1)]) 97 [some (.inr (.inr x0)), some (.inr (.inr x1)), some (.inl x2), some (.inl x3), some (.inl x4), some (.inl r3), none, none] [.inr (.inr x0)] (by decide +kernel) rfl ?_
      refine s_gR fl_0_15 rfl (by decide +kernel) (fun v5 => ?_)
      refine s_run (b := [(.iload 4, 2), (.iload 5, 2)]) 104 [some (.inr (.inr x0)), some (.inr (.inr x1)), some (.inl x2), some (.inl x3), some (.inl x4), some (.inl r3), none, none] [.inl r3, .inl x4, .inr (.inr v5)] (by decide +kernel) rfl ?_
      refine s_is (by decide +kernel) (fun M6 => ?_)
      refine s_run (b := [(.iload_n 2, 1), (.iconst 1, 1), (.iload 5, 2), (.ishl, 1), (.ior, 1), (.istore_n 2, 1), (.iload_n 3, 1)]) 113 [some (.inr (.inr x0)), some (.inr (.inr x1)), some (.inl (x2 ||| ((1 : Int32) <<< (r3 &&& 31)))), some (.inl x3), some (.inl x4), some (.inl r3), none, none] [.inl x3] (by decide +kernel) rfl ?_
      refine s_if_ne (tgt := 128) (off := 15) (by decide +kernel) (by decide) (fun h7 => ?_) (fun h7 => ?_)
      · skip
        refine s_run (b := [(.aload_n 1, 1)]) 117 [some (.inr (.inr x0)), some (.inr (.inr x1)), some (.inl (x2 ||| ((1 : Int32) <<< (r3 &&& 31)))), some (.inl x3), some (.inl x4), some (.inl r3), none, none] [.inr (.inr x1)] (by decide +kernel) rfl ?_
        refine s_gR fl_0_83 rfl (by decide +kernel) (fun v8 => ?_)
        refine s_run (b := [(.iload 5, 2)]) 122 [some (.inr (.inr x0)), some (.inr (.inr x1)), some (.inl (x2 ||| ((1 : Int32) <<< (r3 &&& 31)))), some (.inl x3), some (.inl x4), some (.inl r3), none, none] [.inl r3, .inr (.inr v8)] (by decide +kernel) rfl ?_
        refine s_ia (by decide +kernel) (fun v9 => ?_)
        refine s_run (b := [(.bipush 10, 2)]) 125 [some (.inr (.inr x0)), some (.inr (.inr x1)), some (.inl (x2 ||| ((1 : Int32) <<< (r3 &&& 31)))), some (.inl x3), some (.inl x4), some (.inl r3), none, none] [.inl (10 : Int32), .inl v9] (by decide +kernel) rfl ?_
        refine s_ic_ne (tgt := 132) (off := 7) (by decide +kernel) (by decide) (fun h10 => ?_) (fun h10 => ?_)
        · skip
          refine s_run (b := [(.iconst 1, 1), (.goto 4, 3), (.istore_n 3, 1), (.iinc 4 1, 3), (.goto (-130), 3)]) 7 [some (.inr (.inr x0)), some (.inr (.inr x1)), some (.inl (x2 ||| ((1 : Int32) <<< (r3 &&& 31)))), some (.inl (1 : Int32)), some (.inl (x4 + (1 : Int32))), some (.inl r3), none, none] [] (by decide +kernel) rfl ?_
          exact s_lsub (ls' := [some (.inr (.inr x0)), some (.inr (.inr x1)), some (.inl (x2 ||| ((1 : Int32) <<< (r3 &&& 31)))), some (.inl (1 : Int32)), some (.inl (x4 + (1 : Int32))), none, none, none]) ⟨rfl, ⟨rfl, ⟨rfl, ⟨rfl, ⟨rfl, trivial⟩⟩⟩⟩⟩ (kk1 (x2 ||| ((1 : Int32) <<< (r3 &&& 31))) (1 : Int32) (x4 + (1 : Int32)) M6)
        · skip
          refine s_run (b := [(.iconst 0, 1), (.istore_n 3, 1), (.iinc 4 1, 3), (.goto (-130), 3)]) 7 [some (.inr (.inr x0)), some (.inr (.inr x1)), some (.inl (x2 ||| ((1 : Int32) <<< (r3 &&& 31)))), some (.inl (0 : Int32)), some (.inl (x4 + (1 : Int32))), some (.inl r3), none, none] [] (by decide +kernel) rfl ?_
          exact s_lsub (ls' := [some (.inr (.inr x0)), some (.inr (.inr x1)), some (.inl (x2 ||| ((1 : Int32) <<< (r3 &&& 31)))), some (.inl (0 : Int32)), some (.inl (x4 + (1 : Int32))), none, none, none]) ⟨rfl, ⟨rfl, ⟨rfl, ⟨rfl, ⟨rfl, trivial⟩⟩⟩⟩⟩ (kk1 (x2 ||| ((1 : Int32) <<< (r3 &&& 31))) (0 : Int32) (x4 + (1 : Int32)) M6)
      · skip
        refine s_run (b := [(.iconst 1, 1), (.goto 4, 3), (.istore_n 3, 1), (.iinc 4 1, 3), (.goto (-130), 3)]) 7 [some (.inr (.inr x0)), some (.inr (.inr x1)), some (.inl (x2 ||| ((1 : Int32) <<< (r3 &&& 31)))), some (.inl (1 : Int32)), some (.inl (x4 + (1 : Int32))), some (.inl r3), none, none] [] (by decide +kernel) rfl ?_
        exact s_lsub (ls' := [some (.inr (.inr x0)), some (.inr (.inr x1)), some (.inl (x2 ||| ((1 : Int32) <<< (r3 &&& 31)))), some (.inl (1 : Int32)), some (.inl (x4 + (1 : Int32))), none, none, none]) ⟨rfl, ⟨rfl, ⟨rfl, ⟨rfl, ⟨rfl, trivial⟩⟩⟩⟩⟩ (kk1 (x2 ||| ((1 : Int32) <<< (r3 &&& 31))) (1 : Int32) (x4 + (1 : Int32)) M6)
set_option maxRecDepth 20000 in
theorem L_X0_layRow_7 {l : Launch} {G : Gv} {lim : Nat × Nat} (M : Mem) (x0 : Nat) (x1 : Nat) (x2 : Int32) (x3 : Int32) (x4 : Int32) (K : ((Mem) ⊕ (Mem)) → Option (Option Value × Mem)) (kk2_0 : ∀ r : Mem, SimR l G Y_X0_layRow lim (K (.inl r)) 95 [none, none, none, none, none, none, none, none] [] r) (kk2_1 : ∀ r : Mem, SimR l G Y_X0_layRow lim (K (.inr r)) 140 [none, none, none, none, none, none, none, none] [] r) : Sim l G Y_X0_layRow lim (f_X0_layRow_L7 M x0 x1 x2 x3 x4) K 7 [some (.inr (.inr x0)), some (.inr (.inr x1)), some (.inl x2), some (.inl x3), some (.inl x4), none, none, none] [] M :=
  s_iter (f := fun s : Int32 × Int32 × Int32 × Mem => f_X0_layRow_B7 s.2.2.2 x0 x1 s.1 s.2.1 s.2.2.1) (hd := 7) (cl := fun s => [some (.inr (.inr x0)), some (.inr (.inr x1)), some (.inl s.1), some (.inl s.2.1), some (.inl s.2.2.1), none, none, none]) (cm := fun s => s.2.2.2) (xp := (fun r => match r with | .inl r => 95 | .inr r => 140)) (xl := (fun r => match r with | .inl r => [none, none, none, none, none, none, none, none] | .inr r => [none, none, none, none, none, none, none, none])) (xm := (fun r => match r with | .inl r => r | .inr r => r)) (fun s K h1 h2 => B_X0_layRow_7 s.2.2.2 x0 x1 s.1 s.2.1 s.2.2.1 K (fun a2 a3 a4 a_ => h1 (a2, a3, a4, a_)) (fun a_ => h2 (.inl a_)) (fun a_ => h2 (.inr a_))) 1048576 (x2, x3, x4, M) K (fun r => by
    rcases r with r | r
    · exact kk2_0 r
    · exact kk2_1 r)
def f_X0_layRow (M : Mem) (x0 : Nat) (x1 : Nat) : Option (Mem) :=
  ((f_X0_layRow_L7 M x0 x1 (0 : Int32) (0 : Int32) (0 : Int32)).bind fun r1 => match r1 with
  | .inl r1 => some r1
  | .inr r1 => some r1)
set_option maxRecDepth 20000 in
theorem S_X0_layRow {l : Launch} {G : Gv} {lim : Nat × Nat} (M : Mem) (x0 : Nat) (x1 : Nat) : Sim l G Y_X0_layRow lim (f_X0_layRow M x0 x1) (fun z => some (none, z)) 0 [some (.inr (.inr x0)), some (.inr (.inr x1)), none, none, none, none, none, none] [] M := by
  unfold f_X0_layRow
  refine s_run (b := [(.iconst 0, 1), (.istore_n 2, 1), (.iconst 0, 1), (.istore_n 3, 1), (.iconst 0, 1), (.istore 4, 2)]) 7 [some (.inr (.inr x0)), some (.inr (.inr x1)), some (.inl (0 : Int32)), some (.inl (0 : Int32)), some (.inl (0 : Int32)), none, none, none] [] (by decide +kernel) rfl ?_
  refine s_lsub (ls' := [some (.inr (.inr x0)), some (.inr (.inr x1)), some (.inl (0 : Int32)), some (.inl (0 : Int32)), some (.inl (0 : Int32)), none, none, none]) ⟨rfl, ⟨rfl, ⟨rfl, ⟨rfl, ⟨rfl, trivial⟩⟩⟩⟩⟩ ?_
  refine sim_bind (L_X0_layRow_7 M x0 x1 (0 : Int32) (0 : Int32) (0 : Int32) _ (fun r1 => ?_) (fun r1 => ?_))
  · change Sim l G Y_X0_layRow lim _ _ 95 [none, none, none, none, none, none, none, none] [] r1
    exact s_vret (by decide +kernel) rfl
  · change Sim l G Y_X0_layRow lim _ _ 140 [none, none, none, none, none, none, none, none] [] r1
    exact s_vret (by decide +kernel) rfl
set_option maxRecDepth 20000 in
theorem c_X0_layRow {l : Launch} {G : Gv} {M : Mem} {x0 : Nat} {x1 : Nat} {z : Mem} (h : f_X0_layRow M x0 x1 = some z) : MetS l G Y_X0_layRow [.inr (.inr x0), .inr (.inr x1)] M none z :=
  met_of (ls0 := [some (.inr (.inr x0)), some (.inr (.inr x1)), none, none, none, none, none, none]) (by decide) rfl (lv_in (m := 6) rfl) (sl_le (Nat.le_of_ble_eq_true rfl)) (by rw [h]; rfl) (Or.inl ⟨rfl, rfl⟩) (S_X0_layRow M x0 x1)
def f_X0_reduce_B13 (M : Mem) (x0 : Nat) (x1 : Int64) (x3 : Int64) (x5 : Int32) : Option ((Int64 × Int64 × Int32) ⊕ ((Int64))) :=
  (if (200 : Int32) ≤ x5 then
    some (.inr x1)
  else
    (if (lg_cmp x3 (0 : Int64)) ≤ 0 then
      some (.inr x1)
    else
      (rmL x1 x3).bind fun v3 =>
      some (.inl (x3, v3, (x5 + (1 : Int32))))))
def f_X0_reduce_L13 (M : Mem) (x0 : Nat) (x1 : Int64) (x3 : Int64) (x5 : Int32) : Option ((Int64)) := iter (fun s : Int64 × Int64 × Int32 => f_X0_reduce_B13 M x0 s.1 s.2.1 s.2.2) 1048576 (x1, x3, x5)
set_option maxRecDepth 20000 in
theorem B_X0_reduce_13 {l : Launch} {G : Gv} {lim : Nat × Nat} (M : Mem) (x0 : Nat) (x1 : Int64) (x3 : Int64) (x5 : Int32) (K : (Int64 × Int64 × Int32) ⊕ ((Int64)) → Option (Option Value × Mem)) (kk1 : ∀ (s1 : Int64) (s3 : Int64) (s5 : Int32), SimR l G Y_X0_reduce lim (K (.inl (s1, s3, s5))) 13 [some (.inr (.inr x0)), some (.inr (.inl s1)), none, some (.inr (.inl s3)), none, some (.inl s5), none, none] [] M) (kk2_0 : ∀ (s1 : Int64), SimR l G Y_X0_reduce lim (K (.inr s1)) 43 [some (.inr (.inr x0)), some (.inr (.inl s1)), none, none, none, none, none, none] [] M) : Sim l G Y_X0_reduce lim (f_X0_reduce_B13 M x0 x1 x3 x5) K 13 [some (.inr (.inr x0)), some (.inr (.inl x1)), none, some (.inr (.inl x3)), none, some (.inl x5), none, none] [] M := by
  unfold f_X0_reduce_B13
  refine s_run (b := [(.iload 5, 2), (.sipush 200, 3)]) 18 [some (.inr (.inr x0)), some (.inr (.inl x1)), none, some (.inr (.inl x3)), none, some (.inl x5), none, none] [.inl (200 : Int32), .inl x5] (by decide +kernel) rfl ?_
  refine s_ic_ge (tgt := 43) (off := 25) (by decide +kernel) (by decide) (fun h1 => ?_) (fun h1 => ?_)
  · skip
    exact s_lsub (ls' := [some (.inr (.inr x0)), some (.inr (.inl x1)), none, none, none, none, none, none]) ⟨rfl, ⟨rfl, trivial⟩⟩ (kk2_0 x1)
  · skip
    refine s_run (b := [(.lload_n 3, 1), (.lconst 0, 1), (.lcmp, 1)]) 24 [some (.inr (.inr x0)), some (.inr (.inl x1)), none, some (.inr (.inl x3)), none, some (.inl x5), none, none] [.inl (lg_cmp x3 (0 : Int64))] (by decide +kernel) rfl ?_
    refine s_if_le (tgt := 43) (off := 19) (by decide +kernel) (by decide) (fun h2 => ?_) (fun h2 => ?_)
    · skip
      exact s_lsub (ls' := [some (.inr (.inr x0)), some (.inr (.inl x1)), none, none, none, none, none, none]) ⟨rfl, ⟨rfl, trivial⟩⟩ (kk2_0 x1)
    · skip
      refine s_run (b := [(.lload_n 1, 1), (.lload_n 3, 1)]) 29 [some (.inr (.inr x0)), some (.inr (.inl x1)), none, some (.inr (.inl x3)), none, some (.inl x5), none, none] [.inr (.inl x3), .inr (.inl x1)] (by decide +kernel) rfl ?_
      refine s_lrem (by decide +kernel) (fun v3 => ?_)
      refine s_run (b := [(.lstore 6, 2), (.lload_n 3, 1), (.lstore_n 1, 1), (.lload 6, 2), (.lstore_n 3, 1), (.iinc 5 1, 3), (.goto (-27), 3)]) 13 [some (.inr (.inr x0)), some (.inr (.inl x3)), none, some (.inr (.inl v3)), none, some (.inl (x5 + (1 : Int32))), some (.inr (.inl v3)), none] [] (by decide +kernel) rfl ?_
      exact s_lsub (ls' := [some (.inr (.inr x0)), some (.inr (.inl x3)), none, some (.inr (.inl v3)), none, some (.inl (x5 + (1 : Int32))), none, none]) ⟨rfl, ⟨rfl, ⟨rfl, ⟨rfl, trivial⟩⟩⟩⟩ (kk1 x3 v3 (x5 + (1 : Int32)))
set_option maxRecDepth 20000 in
theorem L_X0_reduce_13 {l : Launch} {G : Gv} {lim : Nat × Nat} (M : Mem) (x0 : Nat) (x1 : Int64) (x3 : Int64) (x5 : Int32) (K : ((Int64)) → Option (Option Value × Mem)) (kk2_0 : ∀ r : Int64, SimR l G Y_X0_reduce lim (K r) 43 [some (.inr (.inr x0)), some (.inr (.inl r)), none, none, none, none, none, none] [] M) : Sim l G Y_X0_reduce lim (f_X0_reduce_L13 M x0 x1 x3 x5) K 13 [some (.inr (.inr x0)), some (.inr (.inl x1)), none, some (.inr (.inl x3)), none, some (.inl x5), none, none] [] M :=
  s_iter (f := fun s : Int64 × Int64 × Int32 => f_X0_reduce_B13 M x0 s.1 s.2.1 s.2.2) (hd := 13) (cl := fun s => [some (.inr (.inr x0)), some (.inr (.inl s.1)), none, some (.inr (.inl s.2.1)), none, some (.inl s.2.2), none, none]) (cm := fun s => M) (xp := fun _ => 43) (xl := fun r => [some (.inr (.inr x0)), some (.inr (.inl r)), none, none, none, none, none, none]) (xm := fun r => M) (fun s K h1 h2 => B_X0_reduce_13 M x0 s.1 s.2.1 s.2.2 K (fun a1 a3 a5 => h1 (a1, a3, a5)) (fun a1 => h2 a1)) 1048576 (x1, x3, x5) K kk2_0
def f_X0_reduce (M : Mem) (x0 : Nat) : Option (Mem) :=
  (gL M 0 x0 0).bind fun v1 =>
  (gL M 0 x0 1).bind fun v2 =>
  (f_X0_reduce_L13 M x0 v1 v2 (0 : Int32)).bind fun r3 =>
  (if (lg_cmp r3 (0 : Int64)) ≤ 0 then
    some M
  else
    (gL M 0 x0 0).bind fun v5 =>
    (dvL v5 r3).bind fun v6 =>
    (pL M 0 x0 0 v6).bind fun M7 =>
    (gL M7 0 x0 1).bind fun v8 =>
    (dvL v8 r3).bind fun v9 =>
    (pL M7 0 x0 1 v9).bind fun M10 =>
    some M10)
set_option maxRecDepth 20000 in
theorem S_X0_reduce {l : Launch} {G : Gv} {lim : Nat × Nat} (M : Mem) (x0 : Nat) : Sim l G Y_X0_reduce lim (f_X0_reduce M x0) (fun z => some (none, z)) 0 [some (.inr (.inr x0)), none, none, none, none, none, none, none] [] M := by
  unfold f_X0_reduce
  refine s_run (b := [(.aload_n 0, 1)]) 1 [some (.inr (.inr x0)), none, none, none, none, none, none, none] [.inr (.inr x0)] (by decide +kernel) rfl ?_
  refine s_gL fl_0_26 rfl (by decide +kernel) (fun v1 => ?_)
  refine s_run (b := [(.lstore_n 1, 1), (.aload_n 0, 1)]) 6 [some (.inr (.inr x0)), some (.inr (.inl v1)), none, none, none, none, none, none] [.inr (.inr x0)] (by decide +kernel) rfl ?_
  refine s_gL fl_0_9 rfl (by decide +kernel) (fun v2 => ?_)
  refine s_run (b := [(.lstore_n 3, 1), (.iconst 0, 1), (.istore 5, 2)]) 13 [some (.inr (.inr x0)), some (.inr (.inl v1)), none, some (.inr (.inl v2)), none, some (.inl (0 : Int32)), none, none] [] (by decide +kernel) rfl ?_
  refine s_lsub (ls' := [some (.inr (.inr x0)), some (.inr (.inl v1)), none, some (.inr (.inl v2)), none, some (.inl (0 : Int32)), none, none]) ⟨rfl, ⟨rfl, ⟨rfl, ⟨rfl, trivial⟩⟩⟩⟩ ?_
  refine sim_bind (L_X0_reduce_13 M x0 v1 v2 (0 : Int32) _ (fun r3 => ?_))
  change Sim l G Y_X0_reduce lim _ _ 43 [some (.inr (.inr x0)), some (.inr (.inl r3)), none, none, none, none, none, none] [] M
  refine s_run (b := [(.lload_n 1, 1), (.lconst 0, 1), (.lcmp, 1)]) 46 [some (.inr (.inr x0)), some (.inr (.inl r3)), none, none, none, none, none, none] [.inl (lg_cmp r3 (0 : Int64))] (by decide +kernel) rfl ?_
  refine s_if_le (tgt := 69) (off := 23) (by decide +kernel) (by decide) (fun h4 => ?_) (fun h4 => ?_)
  · skip
    exact s_vret (by decide +kernel) rfl
  · skip
    refine s_run (b := [(.aload_n 0, 1), (.dup, 1)]) 51 [some (.inr (.inr x0)), some (.inr (.inl r3)), none, none, none, none, none, none] [.inr (.inr x0), .inr (.inr x0)] (by decide +kernel) rfl ?_
    refine s_gL fl_0_26 rfl (by decide +kernel) (fun v5 => ?_)
    refine s_run (b := [(.lload_n 1, 1)]) 55 [some (.inr (.inr x0)), some (.inr (.inl r3)), none, none, none, none, none, none] [.inr (.inl r3), .inr (.inl v5), .inr (.inr x0)] (by decide +kernel) rfl ?_
    refine s_ldiv (by decide +kernel) (fun v6 => ?_)
    refine s_pL fl_0_26 (Or.inl rfl) rfl (by decide +kernel) (fun M7 => ?_)
    refine s_run (b := [(.aload_n 0, 1), (.dup, 1)]) 61 [some (.inr (.inr x0)), some (.inr (.inl r3)), none, none, none, none, none, none] [.inr (.inr x0), .inr (.inr x0)] (by decide +kernel) rfl ?_
    refine s_gL fl_0_9 rfl (by decide +kernel) (fun v8 => ?_)
    refine s_run (b := [(.lload_n 1, 1)]) 65 [some (.inr (.inr x0)), some (.inr (.inl r3)), none, none, none, none, none, none] [.inr (.inl r3), .inr (.inl v8), .inr (.inr x0)] (by decide +kernel) rfl ?_
    refine s_ldiv (by decide +kernel) (fun v9 => ?_)
    refine s_pL fl_0_9 (Or.inl rfl) rfl (by decide +kernel) (fun M10 => ?_)
    exact s_vret (by decide +kernel) rfl
set_option maxRecDepth 20000 in
theorem c_X0_reduce {l : Launch} {G : Gv} {M : Mem} {x0 : Nat} {z : Mem} (h : f_X0_reduce M x0 = some z) : MetS l G Y_X0_reduce [.inr (.inr x0)] M none z :=
  met_of (ls0 := [some (.inr (.inr x0)), none, none, none, none, none, none, none]) (by decide) rfl (lv_in (m := 7) rfl) (sl_le (Nat.le_of_ble_eq_true rfl)) (by rw [h]; rfl) (Or.inl ⟨rfl, rfl⟩) (S_X0_reduce M x0)
def f_X0_tenTo_B4 (M : Mem) (x0 : Int32) (x1 : Int64) (x3 : Int32) : Option ((Int64 × Int32) ⊕ ((Int64))) :=
  (if x0 ≤ x3 then
    some (.inr x1)
  else
    some (.inl ((x1 * (10 : Int64)), (x3 + (1 : Int32)))))
def f_X0_tenTo_L4 (M : Mem) (x0 : Int32) (x1 : Int64) (x3 : Int32) : Option ((Int64)) := iter (fun s : Int64 × Int32 => f_X0_tenTo_B4 M x0 s.1 s.2) 1048576 (x1, x3)
set_option maxRecDepth 20000 in
theorem B_X0_tenTo_4 {l : Launch} {G : Gv} {lim : Nat × Nat} (M : Mem) (x0 : Int32) (x1 : Int64) (x3 : Int32) (K : (Int64 × Int32) ⊕ ((Int64)) → Option (Option Value × Mem)) (kk1 : ∀ (s1 : Int64) (s3 : Int32), SimR l G Y_X0_tenTo lim (K (.inl (s1, s3))) 4 [some (.inl x0), some (.inr (.inl s1)), none, some (.inl s3)] [] M) (kk2_0 : ∀ (s1 : Int64), SimR l G Y_X0_tenTo lim (K (.inr s1)) 21 [none, some (.inr (.inl s1)), none, none] [] M) : Sim l G Y_X0_tenTo lim (f_X0_tenTo_B4 M x0 x1 x3) K 4 [some (.inl x0), some (.inr (.inl x1)), none, some (.inl x3)] [] M := by
  unfold f_X0_tenTo_B4
  refine s_run (b := [(.iload_n 3, 1), (.iload_n 0, 1)]) 6 [some (.inl x0), some (.inr (.inl x1)), none, some (.inl x3)] [.inl x0, .inl x3] (by decide +kernel) rfl ?_
  refine s_ic_ge (tgt := 21) (off := 15) (by decide +kernel) (by decide) (fun h1 => ?_) (fun h1 => ?_)
  · skip
    exact s_lsub (ls' := [none, some (.inr (.inl x1)), none, none]) ⟨rfl, trivial⟩ (kk2_0 x1)
  · skip
    refine s_run (b := [(.lload_n 1, 1)]) 10 [some (.inl x0), some (.inr (.inl x1)), none, some (.inl x3)] [.inr (.inl x1)] (by decide +kernel) rfl ?_
    refine s_ldc2 q892 (by decide +kernel) ?_
    change Sim l G Y_X0_tenTo lim _ _ 13 [some (.inl x0), some (.inr (.inl x1)), none, some (.inl x3)] [.inr (.inl (10 : Int64)), .inr (.inl x1)] M
    refine s_run (b := [(.lmul, 1), (.lstore_n 1, 1), (.iinc 3 1, 3), (.goto (-14), 3)]) 4 [some (.inl x0), some (.inr (.inl (x1 * (10 : Int64)))), none, some (.inl (x3 + (1 : Int32)))] [] (by decide +kernel) rfl ?_
    exact s_lsub (ls' := [some (.inl x0), some (.inr (.inl (x1 * (10 : Int64)))), none, some (.inl (x3 + (1 : Int32)))]) ⟨rfl, ⟨rfl, ⟨rfl, trivial⟩⟩⟩ (kk1 (x1 * (10 : Int64)) (x3 + (1 : Int32)))
set_option maxRecDepth 20000 in
theorem L_X0_tenTo_4 {l : Launch} {G : Gv} {lim : Nat × Nat} (M : Mem) (x0 : Int32) (x1 : Int64) (x3 : Int32) (K : ((Int64)) → Option (Option Value × Mem)) (kk2_0 : ∀ r : Int64, SimR l G Y_X0_tenTo lim (K r) 21 [none, some (.inr (.inl r)), none, none] [] M) : Sim l G Y_X0_tenTo lim (f_X0_tenTo_L4 M x0 x1 x3) K 4 [some (.inl x0), some (.inr (.inl x1)), none, some (.inl x3)] [] M :=
  s_iter (f := fun s : Int64 × Int32 => f_X0_tenTo_B4 M x0 s.1 s.2) (hd := 4) (cl := fun s => [some (.inl x0), some (.inr (.inl s.1)), none, some (.inl s.2)]) (cm := fun s => M) (xp := fun _ => 21) (xl := fun r => [none, some (.inr (.inl r)), none, none]) (xm := fun r => M) (fun s K h1 h2 => B_X0_tenTo_4 M x0 s.1 s.2 K (fun a1 a3 => h1 (a1, a3)) (fun a1 => h2 a1)) 1048576 (x1, x3) K kk2_0
def f_X0_tenTo (M : Mem) (x0 : Int32) : Option (Int64) :=
  (f_X0_tenTo_L4 M x0 (1 : Int64) (0 : Int32)).bind fun r1 =>
  some r1
set_option maxRecDepth 20000 in
theorem S_X0_tenTo {l : Launch} {G : Gv} {lim : Nat × Nat} (M : Mem) (x0 : Int32) : Sim l G Y_X0_tenTo lim (f_X0_tenTo M x0) (fun z => some (some (.long z), M)) 0 [some (.inl x0), none, none, none] [] M := by
  unfold f_X0_tenTo
  refine s_run (b := [(.lconst 1, 1), (.lstore_n 1, 1), (.iconst 0, 1), (.istore_n 3, 1)]) 4 [some (.inl x0), some (.inr (.inl (1 : Int64))), none, some (.inl (0 : Int32))] [] (by decide +kernel) rfl ?_
  refine s_lsub (ls' := [some (.inl x0), some (.inr (.inl (1 : Int64))), none, some (.inl (0 : Int32))]) ⟨rfl, ⟨rfl, ⟨rfl, trivial⟩⟩⟩ ?_
  refine sim_bind (L_X0_tenTo_4 M x0 (1 : Int64) (0 : Int32) _ (fun r1 => ?_))
  change Sim l G Y_X0_tenTo lim _ _ 21 [none, some (.inr (.inl r1)), none, none] [] M
  refine s_run (b := [(.lload_n 1, 1)]) 22 [none, some (.inr (.inl r1)), none, none] [.inr (.inl r1)] (by decide +kernel) rfl ?_
  exact s_lret (by decide +kernel) rfl
set_option maxRecDepth 20000 in
theorem c_X0_tenTo {l : Launch} {G : Gv} {M : Mem} {x0 : Int32} {z : Int64} (h : f_X0_tenTo M x0 = some z) : MetS l G Y_X0_tenTo [.inl x0] M (some (.long z)) M :=
  met_of (ls0 := [some (.inl x0), none, none, none]) (by decide) rfl (lv_in (m := 3) rfl) (sl_le (Nat.le_of_ble_eq_true rfl)) (by rw [h]; rfl) (Or.inl ⟨rfl, rfl⟩) (S_X0_tenTo M x0)
def f_X0_reckonButton_B29 (M : Mem) (x0 : Nat) (x1 : Nat) (x2 : Int64) (x4 : Int32) : Option ((Int64 × Int32 × Mem) ⊕ ((Mem))) :=
  (gI M 5 x1 0).bind fun v1 =>
  (if v1 ≤ x4 then
    some (.inr M)
  else
    (gL M 0 x0 0).bind fun v3 =>
    (pL M 0 x0 0 (v3 + x2)).bind fun M4 =>
    (dvL x2 (10 : Int64)).bind fun v5 =>
    (gR M4 5 x1 9).bind fun v6 =>
    (gR M4 0 x0 2).bind fun v7 =>
    (aI M4 0 v7 x4).bind fun v8 =>
    (aI M4 0 v6 v8).bind fun v9 =>
    some (.inl ((v5 * (Int32.toInt64 ((10 : Int32) - v9))), (x4 + (1 : Int32)), M4)))
def f_X0_reckonButton_L29 (M : Mem) (x0 : Nat) (x1 : Nat) (x2 : Int64) (x4 : Int32) : Option ((Mem)) := iter (fun s : Int64 × Int32 × Mem => f_X0_reckonButton_B29 s.2.2 x0 x1 s.1 s.2.1) 1048576 (x2, x4, M)
set_option maxRecDepth 20000 in
theorem B_X0_reckonButton_29 {l : Launch} {G : Gv} {lim : Nat × Nat} (M : Mem) (x0 : Nat) (x1 : Nat) (x2 : Int64) (x4 : Int32) (K : (Int64 × Int32 × Mem) ⊕ ((Mem)) → Option (Option Value × Mem)) (kk1 : ∀ (s2 : Int64) (s4 : Int32) (s_ : Mem), SimR l G Y_X0_reckonButton lim (K (.inl (s2, s4, s_))) 29 [some (.inr (.inr x0)), some (.inr (.inr x1)), some (.inr (.inl s2)), none, some (.inl s4)] [] s_) (kk2_0 : ∀ (s_ : Mem), SimR l G Y_X0_reckonButton lim (K (.inr s_)) 77 [some (.inr (.inr x0)), none, none, none, none] [] s_) : Sim l G Y_X0_reckonButton lim (f_X0_reckonButton_B29 M x0 x1 x2 x4) K 29 [some (.inr (.inr x0)), some (.inr (.inr x1)), some (.inr (.inl x2)), none, some (.inl x4)] [] M := by
  unfold f_X0_reckonButton_B29
  refine s_run (b := [(.iload 4, 2), (.aload_n 1, 1)]) 32 [some (.inr (.inr x0)), some (.inr (.inr x1)), some (.inr (.inl x2)), none, some (.inl x4)] [.inr (.inr x1), .inl x4] (by decide +kernel) rfl ?_
  refine s_gI fl_0_61 rfl (by decide +kernel) (fun v1 => ?_)
  refine s_ic_ge (tgt := 77) (off := 42) (by decide +kernel) (by decide) (fun h2 => ?_) (fun h2 => ?_)
  · skip
    exact s_lsub (ls' := [some (.inr (.inr x0)), none, none, none, none]) ⟨rfl, trivial⟩ (kk2_0 M)
  · skip
    refine s_run (b := [(.aload_n 0, 1), (.dup, 1)]) 40 [some (.inr (.inr x0)), some (.inr (.inr x1)), some (.inr (.inl x2)), none, some (.inl x4)] [.inr (.inr x0), .inr (.inr x0)] (by decide +kernel) rfl ?_
    refine s_gL fl_0_26 rfl (by decide +kernel) (fun v3 => ?_)
    refine s_run (b := [(.lload_n 2, 1), (.ladd, 1)]) 45 [some (.inr (.inr x0)), some (.inr (.inr x1)), some (.inr (.inl x2)), none, some (.inl x4)] [.inr (.inl (v3 + x2)), .inr (.inr x0)] (by decide +kernel) rfl ?_
    refine s_pL fl_0_26 (Or.inl rfl) rfl (by decide +kernel) (fun M4 => ?_)
    refine s_run (b := [(.lload_n 2, 1)]) 49 [some (.inr (.inr x0)), some (.inr (.inr x1)), some (.inr (.inl x2)), none, some (.inl x4)] [.inr (.inl x2)] (by decide +kernel) rfl ?_
    refine s_ldc2 q892 (by decide +kernel) ?_
    change Sim l G Y_X0_reckonButton lim _ _ 52 [some (.inr (.inr x0)), some (.inr (.inr x1)), some (.inr (.inl x2)), none, some (.inl x4)] [.inr (.inl (10 : Int64)), .inr (.inl x2)] M4
    refine s_ldiv (by decide +kernel) (fun v5 => ?_)
    refine s_run (b := [(.bipush 10, 2), (.aload_n 1, 1)]) 56 [some (.inr (.inr x0)), some (.inr (.inr x1)), some (.inr (.inl x2)), none, some (.inl x4)] [.inr (.inr x1), .inl (10 : Int32), .inr (.inl v5)] (by decide +kernel) rfl ?_
    refine s_gR fl_0_83 rfl (by decide +kernel) (fun v6 => ?_)
    refine s_run (b := [(.aload_n 0, 1)]) 60 [some (.inr (.inr x0)), some (.inr (.inr x1)), some (.inr (.inl x2)), none, some (.inl x4)] [.inr (.inr x0), .inr (.inr v6), .inl (10 : Int32), .inr (.inl v5)] (by decide +kernel) rfl ?_
    refine s_gR fl_0_15 rfl (by decide +kernel) (fun v7 => ?_)
    refine s_run (b := [(.iload 4, 2)]) 65 [some (.inr (.inr x0)), some (.inr (.inr x1)), some (.inr (.inl x2)), none, some (.inl x4)] [.inl x4, .inr (.inr v7), .inr (.inr v6), .inl (10 : Int32), .inr (.inl v5)] (by decide +kernel) rfl ?_
    refine s_ia (by decide +kernel) (fun v8 => ?_)
    refine s_ia (by decide +kernel) (fun v9 => ?_)
    refine s_run (b := [(.isub, 1), (.i2l, 1), (.lmul, 1), (.lstore_n 2, 1), (.iinc 4 1, 3), (.goto (-45), 3)]) 29 [some (.inr (.inr x0)), some (.inr (.inr x1)), some (.inr (.inl (v5 * (Int32.toInt64 ((10 : Int32) - v9))))), none, some (.inl (x4 + (1 : Int32)))] [] (by decide +kernel) rfl ?_
    exact s_lsub (ls' := [some (.inr (.inr x0)), some (.inr (.inr x1)), some (.inr (.inl (v5 * (Int32.toInt64 ((10 : Int32) - v9))))), none, some (.inl (x4 + (1 : Int32)))]) ⟨rfl, ⟨rfl, ⟨rfl, ⟨rfl, trivial⟩⟩⟩⟩ (kk1 (v5 * (Int32.toInt64 ((10 : Int32) - v9))) (x4 + (1 : Int32)) M4)
set_option maxRecDepth 20000 in
theorem L_X0_reckonButton_29 {l : Launch} {G : Gv} {lim : Nat × Nat} (M : Mem) (x0 : Nat) (x1 : Nat) (x2 : Int64) (x4 : Int32) (K : ((Mem)) → Option (Option Value × Mem)) (kk2_0 : ∀ r : Mem, SimR l G Y_X0_reckonButton lim (K r) 77 [some (.inr (.inr x0)), none, none, none, none] [] r) : Sim l G Y_X0_reckonButton lim (f_X0_reckonButton_L29 M x0 x1 x2 x4) K 29 [some (.inr (.inr x0)), some (.inr (.inr x1)), some (.inr (.inl x2)), none, some (.inl x4)] [] M :=
  s_iter (f := fun s : Int64 × Int32 × Mem => f_X0_reckonButton_B29 s.2.2 x0 x1 s.1 s.2.1) (hd := 29) (cl := fun s => [some (.inr (.inr x0)), some (.inr (.inr x1)), some (.inr (.inl s.1)), none, some (.inl s.2.1)]) (cm := fun s => s.2.2) (xp := fun _ => 77) (xl := fun r => [some (.inr (.inr x0)), none, none, none, none]) (xm := fun r => r) (fun s K h1 h2 => B_X0_reckonButton_29 s.2.2 x0 x1 s.1 s.2.1 K (fun a2 a4 a_ => h1 (a2, a4, a_)) (fun a_ => h2 a_)) 1048576 (x2, x4, M) K kk2_0
def f_X0_reckonButton (M : Mem) (x0 : Nat) (x1 : Nat) : Option (Mem) :=
  (ob M 0 x0).bind fun _ => (f_X0_layRow M x0 x1).bind fun z1 =>
  (gI z1 5 x1 0).bind fun v2 =>
  (f_X0_tenTo z1 v2).bind fun v3 =>
  (pL z1 0 x0 1 v3).bind fun M4 =>
  (pL M4 0 x0 0 (0 : Int64)).bind fun M5 =>
  (gL M5 0 x0 1).bind fun v6 =>
  (f_X0_reckonButton_L29 M5 x0 x1 v6 (0 : Int32)).bind fun r7 =>
  (ob r7 0 x0).bind fun _ => (f_X0_reduce r7 x0).bind fun z8 =>
  some z8
set_option maxRecDepth 20000 in
theorem S_X0_reckonButton {l : Launch} {G : Gv} {lim : Nat × Nat} (M : Mem) (x0 : Nat) (x1 : Nat) : Sim l G Y_X0_reckonButton lim (f_X0_reckonButton M x0 x1) (fun z => some (none, z)) 0 [some (.inr (.inr x0)), some (.inr (.inr x1)), none, none, none] [] M := by
  unfold f_X0_reckonButton
  refine s_run (b := [(.aload_n 0, 1), (.aload_n 1, 1)]) 2 [some (.inr (.inr x0)), some (.inr (.inr x1)), none, none, none] [.inr (.inr x1), .inr (.inr x0)] (by decide +kernel) rfl ?_
  refine s_cV (Z := Y_X0_layRow) (c := 0) (vs := [.inr (.inr x1)]) (st := []) (rO := fun _ => none) (mO := fun z => z) zk_X0_layRow zi_X0_layRow q973 rfl ⟨by decide, by decide⟩ ⟨rfl, rfl⟩ rfl rfl (Nat.le_of_ble_eq_true rfl) (by decide +kernel) (fun z hz => c_X0_layRow hz) (fun z1 => ?_)
  change Sim l G Y_X0_reckonButton lim _ _ 5 [some (.inr (.inr x0)), some (.inr (.inr x1)), none, none, none] [] z1
  refine s_run (b := [(.aload_n 0, 1), (.aload_n 1, 1)]) 7 [some (.inr (.inr x0)), some (.inr (.inr x1)), none, none, none] [.inr (.inr x1), .inr (.inr x0)] (by decide +kernel) rfl ?_
  refine s_gI fl_0_61 rfl (by decide +kernel) (fun v2 => ?_)
  refine s_cS (Z := Y_X0_tenTo) (vs := [.inl v2]) (st := [.inr (.inr x0)]) (rO := fun z => some (.inr (.inl z))) (mO := fun _ => z1) zk_X0_tenTo q890 q889 ⟨by decide, by decide⟩ ⟨rfl, rfl⟩ rfl rfl (Nat.le_of_ble_eq_true rfl) (by decide +kernel) (fun z hz => c_X0_tenTo hz) (fun v3 => ?_)
  change Sim l G Y_X0_reckonButton lim _ _ 13 [some (.inr (.inr x0)), some (.inr (.inr x1)), none, none, none] [.inr (.inl v3), .inr (.inr x0)] z1
  refine s_pL fl_0_9 (Or.inl rfl) rfl (by decide +kernel) (fun M4 => ?_)
  refine s_run (b := [(.aload_n 0, 1), (.lconst 0, 1)]) 18 [some (.inr (.inr x0)), some (.inr (.inr x1)), none, none, none] [.inr (.inl (0 : Int64)), .inr (.inr x0)] (by decide +kernel) rfl ?_
  refine s_pL fl_0_26 (Or.inl rfl) rfl (by decide +kernel) (fun M5 => ?_)
  refine s_run (b := [(.aload_n 0, 1)]) 22 [some (.inr (.inr x0)), some (.inr (.inr x1)), none, none, none] [.inr (.inr x0)] (by decide +kernel) rfl ?_
  refine s_gL fl_0_9 rfl (by decide +kernel) (fun v6 => ?_)
  refine s_run (b := [(.lstore_n 2, 1), (.iconst 0, 1), (.istore 4, 2)]) 29 [some (.inr (.inr x0)), some (.inr (.inr x1)), some (.inr (.inl v6)), none, some (.inl (0 : Int32))] [] (by decide +kernel) rfl ?_
  refine s_lsub (ls' := [some (.inr (.inr x0)), some (.inr (.inr x1)), some (.inr (.inl v6)), none, some (.inl (0 : Int32))]) ⟨rfl, ⟨rfl, ⟨rfl, ⟨rfl, trivial⟩⟩⟩⟩ ?_
  refine sim_bind (L_X0_reckonButton_29 M5 x0 x1 v6 (0 : Int32) _ (fun r7 => ?_))
  change Sim l G Y_X0_reckonButton lim _ _ 77 [some (.inr (.inr x0)), none, none, none, none] [] r7
  refine s_run (b := [(.aload_n 0, 1)]) 78 [some (.inr (.inr x0)), none, none, none, none] [.inr (.inr x0)] (by decide +kernel) rfl ?_
  refine s_cV (Z := Y_X0_reduce) (c := 0) (vs := []) (st := []) (rO := fun _ => none) (mO := fun z => z) zk_X0_reduce zi_X0_reduce q893 rfl ⟨by decide, by decide⟩ ⟨rfl, rfl⟩ rfl rfl (Nat.le_of_ble_eq_true rfl) (by decide +kernel) (fun z hz => c_X0_reduce hz) (fun z8 => ?_)
  change Sim l G Y_X0_reckonButton lim _ _ 81 [some (.inr (.inr x0)), none, none, none, none] [] z8
  exact s_vret (by decide +kernel) rfl
set_option maxRecDepth 20000 in
theorem c_X0_reckonButton {l : Launch} {G : Gv} {M : Mem} {x0 : Nat} {x1 : Nat} {z : Mem} (h : f_X0_reckonButton M x0 x1 = some z) : MetS l G Y_X0_reckonButton [.inr (.inr x0), .inr (.inr x1)] M none z :=
  met_of (ls0 := [some (.inr (.inr x0)), some (.inr (.inr x1)), none, none, none]) (by decide) rfl (lv_in (m := 3) rfl) (sl_le (Nat.le_of_ble_eq_true rfl)) (by rw [h]; rfl) (Or.inl ⟨rfl, rfl⟩) (S_X0_reckonButton M x0 x1)
def f_X11_button (M : Mem) (x0 : Nat) (x1 : Int32) (x2 : Int32) : Option (Int64 × Mem) :=
  (gR M 11 x0 0).bind fun v1 =>
  (ob M 9 v1).bind fun _ => (f_X9_officeAt M v1 x1).bind fun v2 =>
  (if v2 = 0 then
    some ((-1 : Int64), M)
  else
    (gR M 11 x0 6).bind fun v4 =>
    (ob M 0 v4).bind fun _ => (f_X0_reckonButton M v4 v2).bind fun z5 =>
    (if x2 = (-1 : Int32) then
      (gR z5 11 x0 6).bind fun v7 =>
      (gL z5 0 v7 0).bind fun v8 =>
      some (v8, z5)
    else
      (if x2 = (-2 : Int32) then
        (gR z5 11 x0 6).bind fun v10 =>
        (gL z5 0 v10 1).bind fun v11 =>
        some (v11, z5)
      else
        (ob z5 5 v2).bind fun _ => (f_X5_hasDesk z5 v2 x2).bind fun v12 =>
        (if v12 = 0 then
          some ((-1 : Int64), z5)
        else
          (gR z5 11 x0 6).bind fun v14 =>
          (gR z5 0 v14 2).bind fun v15 =>
          (aI z5 0 v15 x2).bind fun v16 =>
          some ((Int32.toInt64 v16), z5)))))
set_option maxRecDepth 20000 in
theorem S_X11_button {l : Launch} {G : Gv} {lim : Nat × Nat} (M : Mem) (x0 : Nat) (x1 : Int32) (x2 : Int32) : Sim l G Y_X11_button lim (f_X11_button M x0 x1 x2) (fun z => some (some (.long z.1), z.2)) 0 [some (.inr (.inr x0)), some (.inl x1), some (.inl x2), none] [] M := by
  unfold f_X11_button
  refine s_run (b := [(.aload_n 0, 1)]) 1 [some (.inr (.inr x0)), some (.inl x1), some (.inl x2), none] [.inr (.inr x0)] (by decide +kernel) rfl ?_
  refine s_gR fl_11_10 rfl (by decide +kernel) (fun v1 => ?_)
  refine s_run (b := [(.iload_n 1, 1)]) 5 [some (.inr (.inr x0)), some (.inl x1), some (.inl x2), none] [.inl x1, .inr (.inr v1)] (by decide +kernel) rfl ?_
  refine s_cV (Z := Y_X9_officeAt) (c := 9) (vs := [.inl x1]) (st := []) (rO := fun z => some (.inr (.inr z))) (mO := fun _ => M) zk_X9_officeAt zi_X9_officeAt q716 rfl ⟨by decide, by decide⟩ ⟨rfl, rfl⟩ rfl rfl (Nat.le_of_ble_eq_true rfl) (by decide +kernel) (fun z hz => c_X9_officeAt hz) (fun v2 => ?_)
  change Sim l G Y_X11_button lim _ _ 8 [some (.inr (.inr x0)), some (.inl x1), some (.inl x2), none] [.inr (.inr v2)] M
  refine s_run (b := [(.astore_n 3, 1), (.aload_n 3, 1)]) 10 [some (.inr (.inr x0)), some (.inl x1), some (.inl x2), some (.inr (.inr v2))] [.inr (.inr v2)] (by decide +kernel) rfl ?_
  refine s_ifnonnull (tgt := 17) (off := 7) (by decide +kernel) (by decide) (fun h3 => ?_) (fun h3 => ?_)
  · skip
    refine s_ldc2 q871 (by decide +kernel) ?_
    change Sim l G Y_X11_button lim _ _ 16 [some (.inr (.inr x0)), some (.inl x1), some (.inl x2), some (.inr (.inr v2))] [.inr (.inl (-1 : Int64))] M
    exact s_lret (by decide +kernel) rfl
  · skip
    refine s_run (b := [(.aload_n 0, 1)]) 18 [some (.inr (.inr x0)), some (.inl x1), some (.inl x2), some (.inr (.inr v2))] [.inr (.inr x0)] (by decide +kernel) rfl ?_
    refine s_gR fl_11_48 rfl (by decide +kernel) (fun v4 => ?_)
    refine s_run (b := [(.aload_n 3, 1)]) 22 [some (.inr (.inr x0)), some (.inl x1), some (.inl x2), some (.inr (.inr v2))] [.inr (.inr v2), .inr (.inr v4)] (by decide +kernel) rfl ?_
    refine s_cV (Z := Y_X0_reckonButton) (c := 0) (vs := [.inr (.inr v2)]) (st := []) (rO := fun _ => none) (mO := fun z => z) zk_X0_reckonButton zi_X0_reckonButton q969 rfl ⟨by decide, by decide⟩ ⟨rfl, rfl⟩ rfl rfl (Nat.le_of_ble_eq_true rfl) (by decide +kernel) (fun z hz => c_X0_reckonButton hz) (fun z5 => ?_)
    change Sim l G Y_X11_button lim _ _ 25 [some (.inr (.inr x0)), some (.inl x1), some (.inl x2), some (.inr (.inr v2))] [] z5
    refine s_run (b := [(.iload_n 2, 1), (.iconst (-1), 1)]) 27 [some (.inr (.inr x0)), some (.inl x1), some (.inl x2), some (.inr (.inr v2))] [.inl (-1 : Int32), .inl x2] (by decide +kernel) rfl ?_
    refine s_ic_ne (tgt := 38) (off := 11) (by decide +kernel) (by decide) (fun h6 => ?_) (fun h6 => ?_)
    · skip
      refine s_run (b := [(.aload_n 0, 1)]) 31 [some (.inr (.inr x0)), some (.inl x1), some (.inl x2), some (.inr (.inr v2))] [.inr (.inr x0)] (by decide +kernel) rfl ?_
      refine s_gR fl_11_48 rfl (by decide +kernel) (fun v7 => ?_)
      refine s_gL fl_11_170 rfl (by decide +kernel) (fun v8 => ?_)
      exact s_lret (by decide +kernel) rfl
    · skip
      refine s_run (b := [(.iload_n 2, 1), (.bipush (-2), 2)]) 41 [some (.inr (.inr x0)), some (.inl x1), some (.inl x2), some (.inr (.inr v2))] [.inl (-2 : Int32), .inl x2] (by decide +kernel) rfl ?_
      refine s_ic_ne (tgt := 52) (off := 11) (by decide +kernel) (by decide) (fun h9 => ?_) (fun h9 => ?_)
      · skip
        refine s_run (b := [(.aload_n 0, 1)]) 45 [some (.inr (.inr x0)), some (.inl x1), some (.inl x2), some (.inr (.inr v2))] [.inr (.inr x0)] (by decide +kernel) rfl ?_
        refine s_gR fl_11_48 rfl (by decide +kernel) (fun v10 => ?_)
        refine s_gL fl_11_166 rfl (by decide +kernel) (fun v11 => ?_)
        exact s_lret (by decide +kernel) rfl
      · skip
        refine s_run (b := [(.aload_n 3, 1), (.iload_n 2, 1)]) 54 [some (.inr (.inr x0)), some (.inl x1), some (.inl x2), some (.inr (.inr v2))] [.inl x2, .inr (.inr v2)] (by decide +kernel) rfl ?_
        refine s_cV (Z := Y_X5_hasDesk) (c := 5) (vs := [.inl x2]) (st := []) (rO := fun z => some (.inl z)) (mO := fun _ => z5) zk_X5_hasDesk zi_X5_hasDesk q845 rfl ⟨by decide, by decide⟩ ⟨rfl, rfl⟩ rfl rfl (Nat.le_of_ble_eq_true rfl) (by decide +kernel) (fun z hz => c_X5_hasDesk hz) (fun v12 => ?_)
        change Sim l G Y_X11_button lim _ _ 57 [some (.inr (.inr x0)), some (.inl x1), some (.inl x2), some (.inr (.inr v2))] [.inl v12] z5
        refine s_if_eq (tgt := 73) (off := 16) (by decide +kernel) (by decide) (fun h13 => ?_) (fun h13 => ?_)
        · skip
          refine s_ldc2 q871 (by decide +kernel) ?_
          change Sim l G Y_X11_button lim _ _ 76 [some (.inr (.inr x0)), some (.inl x1), some (.inl x2), some (.inr (.inr v2))] [.inr (.inl (-1 : Int64))] z5
          exact s_lret (by decide +kernel) rfl
        · skip
          refine s_run (b := [(.aload_n 0, 1)]) 61 [some (.inr (.inr x0)), some (.inl x1), some (.inl x2), some (.inr (.inr v2))] [.inr (.inr x0)] (by decide +kernel) rfl ?_
          refine s_gR fl_11_48 rfl (by decide +kernel) (fun v14 => ?_)
          refine s_gR fl_11_190 rfl (by decide +kernel) (fun v15 => ?_)
          refine s_run (b := [(.iload_n 2, 1)]) 68 [some (.inr (.inr x0)), some (.inl x1), some (.inl x2), some (.inr (.inr v2))] [.inl x2, .inr (.inr v15)] (by decide +kernel) rfl ?_
          refine s_ia (by decide +kernel) (fun v16 => ?_)
          refine s_run (b := [(.i2l, 1), (.goto 6, 3)]) 76 [some (.inr (.inr x0)), some (.inl x1), some (.inl x2), some (.inr (.inr v2))] [.inr (.inl (Int32.toInt64 v16))] (by decide +kernel) rfl ?_
          exact s_lret (by decide +kernel) rfl
set_option maxRecDepth 20000 in
theorem c_X11_button {l : Launch} {G : Gv} {M : Mem} {x0 : Nat} {x1 : Int32} {x2 : Int32} {z : Int64 × Mem} (h : f_X11_button M x0 x1 x2 = some z) : MetS l G Y_X11_button [.inr (.inr x0), .inl x1, .inl x2] M (some (.long z.1)) z.2 :=
  met_of (ls0 := [some (.inr (.inr x0)), some (.inl x1), some (.inl x2), none]) (by decide) rfl (lv_in (m := 1) rfl) (sl_le (Nat.le_of_ble_eq_true rfl)) (by rw [h]; rfl) (Or.inl ⟨rfl, rfl⟩) (S_X11_button M x0 x1 x2)
def f_X11_count (M : Mem) (x0 : Nat) (x1 : Int32) : Option (Int32) :=
  (if x1 < 0 then
    some (-2 : Int32)
  else
    (if x1 < (3 : Int32) then
      (gR M 11 x0 0).bind fun v3 =>
      (gR M 9 v3 4).bind fun v4 =>
      (aI M 0 v4 x1).bind fun v5 =>
      some v5
    else
      some (-2 : Int32)))
set_option maxRecDepth 20000 in
theorem S_X11_count {l : Launch} {G : Gv} {lim : Nat × Nat} (M : Mem) (x0 : Nat) (x1 : Int32) : Sim l G Y_X11_count lim (f_X11_count M x0 x1) (fun z => some (some (.int z), M)) 0 [some (.inr (.inr x0)), some (.inl x1)] [] M := by
  unfold f_X11_count
  refine s_run (b := [(.iload_n 1, 1)]) 1 [some (.inr (.inr x0)), some (.inl x1)] [.inl x1] (by decide +kernel) rfl ?_
  refine s_if_lt (tgt := 9) (off := 8) (by decide +kernel) (by decide) (fun h1 => ?_) (fun h1 => ?_)
  · skip
    refine s_run (b := [(.bipush (-2), 2), (.goto 12, 3)]) 23 [some (.inr (.inr x0)), some (.inl x1)] [.inl (-2 : Int32)] (by decide +kernel) rfl ?_
    exact s_iret (by decide +kernel) rfl
  · skip
    refine s_run (b := [(.iload_n 1, 1), (.iconst 3, 1)]) 6 [some (.inr (.inr x0)), some (.inl x1)] [.inl (3 : Int32), .inl x1] (by decide +kernel) rfl ?_
    refine s_ic_lt (tgt := 14) (off := 8) (by decide +kernel) (by decide) (fun h2 => ?_) (fun h2 => ?_)
    · skip
      refine s_run (b := [(.aload_n 0, 1)]) 15 [some (.inr (.inr x0)), some (.inl x1)] [.inr (.inr x0)] (by decide +kernel) rfl ?_
      refine s_gR fl_11_10 rfl (by decide +kernel) (fun v3 => ?_)
      refine s_gR fl_11_324 rfl (by decide +kernel) (fun v4 => ?_)
      refine s_run (b := [(.iload_n 1, 1)]) 22 [some (.inr (.inr x0)), some (.inl x1)] [.inl x1, .inr (.inr v4)] (by decide +kernel) rfl ?_
      refine s_ia (by decide +kernel) (fun v5 => ?_)
      exact s_iret (by decide +kernel) rfl
    · skip
      refine s_run (b := [(.bipush (-2), 2), (.goto 12, 3)]) 23 [some (.inr (.inr x0)), some (.inl x1)] [.inl (-2 : Int32)] (by decide +kernel) rfl ?_
      exact s_iret (by decide +kernel) rfl
set_option maxRecDepth 20000 in
theorem c_X11_count {l : Launch} {G : Gv} {M : Mem} {x0 : Nat} {x1 : Int32} {z : Int32} (h : f_X11_count M x0 x1 = some z) : MetS l G Y_X11_count [.inr (.inr x0), .inl x1] M (some (.int z)) M :=
  met_of (ls0 := [some (.inr (.inr x0)), some (.inl x1)]) (by decide) rfl (lv_in (m := 0) rfl) (sl_le (Nat.le_of_ble_eq_true rfl)) (by rw [h]; rfl) (Or.inl ⟨rfl, rfl⟩) (S_X11_count M x0 x1)
def f_X11_curve_B32 (M : Mem) (x2 : Int32) (x3 : Nat) (x4 : Int32) (x5 : Int32) : Option ((Int32 × Int32) ⊕ ((Int32))) :=
  (gI M 5 x3 1).bind fun v1 =>
  (if v1 ≤ x5 then
    some (.inr x4)
  else
    (gR M 5 x3 11).bind fun v3 =>
    (aI M 0 v3 x5).bind fun v4 =>
    (ob M 5 x3).bind fun _ => (f_X5_faded M x3 v4 x2).bind fun v5 =>
    some (.inl ((x4 + v5), (x5 + (1 : Int32)))))
def f_X11_curve_L32 (M : Mem) (x2 : Int32) (x3 : Nat) (x4 : Int32) (x5 : Int32) : Option ((Int32)) := iter (fun s : Int32 × Int32 => f_X11_curve_B32 M x2 x3 s.1 s.2) 1048576 (x4, x5)
set_option maxRecDepth 20000 in
theorem B_X11_curve_32 {l : Launch} {G : Gv} {lim : Nat × Nat} (M : Mem) (x2 : Int32) (x3 : Nat) (x4 : Int32) (x5 : Int32) (K : (Int32 × Int32) ⊕ ((Int32)) → Option (Option Value × Mem)) (kk1 : ∀ (s4 : Int32) (s5 : Int32), SimR l G Y_X11_curve lim (K (.inl (s4, s5))) 32 [none, none, some (.inl x2), some (.inr (.inr x3)), some (.inl s4), some (.inl s5)] [] M) (kk2_0 : ∀ (s4 : Int32), SimR l G Y_X11_curve lim (K (.inr s4)) 64 [none, none, none, none, some (.inl s4), none] [] M) : Sim l G Y_X11_curve lim (f_X11_curve_B32 M x2 x3 x4 x5) K 32 [none, none, some (.inl x2), some (.inr (.inr x3)), some (.inl x4), some (.inl x5)] [] M := by
  unfold f_X11_curve_B32
  refine s_run (b := [(.iload 5, 2), (.aload_n 3, 1)]) 35 [none, none, some (.inl x2), some (.inr (.inr x3)), some (.inl x4), some (.inl x5)] [.inr (.inr x3), .inl x5] (by decide +kernel) rfl ?_
  refine s_gI fl_11_239 rfl (by decide +kernel) (fun v1 => ?_)
  refine s_ic_ge (tgt := 64) (off := 26) (by decide +kernel) (by decide) (fun h2 => ?_) (fun h2 => ?_)
  · skip
    exact s_lsub (ls' := [none, none, none, none, some (.inl x4), none]) ⟨rfl, trivial⟩ (kk2_0 x4)
  · skip
    refine s_run (b := [(.iload 4, 2), (.aload_n 3, 1), (.aload_n 3, 1)]) 45 [none, none, some (.inl x2), some (.inr (.inr x3)), some (.inl x4), some (.inl x5)] [.inr (.inr x3), .inr (.inr x3), .inl x4] (by decide +kernel) rfl ?_
    refine s_gR fl_11_275 rfl (by decide +kernel) (fun v3 => ?_)
    refine s_run (b := [(.iload 5, 2)]) 50 [none, none, some (.inl x2), some (.inr (.inr x3)), some (.inl x4), some (.inl x5)] [.inl x5, .inr (.inr v3), .inr (.inr x3), .inl x4] (by decide +kernel) rfl ?_
    refine s_ia (by decide +kernel) (fun v4 => ?_)
    refine s_run (b := [(.iload_n 2, 1)]) 52 [none, none, some (.inl x2), some (.inr (.inr x3)), some (.inl x4), some (.inl x5)] [.inl x2, .inl v4, .inr (.inr x3), .inl x4] (by decide +kernel) rfl ?_
    refine s_cV (Z := Y_X5_faded) (c := 5) (vs := [.inl v4, .inl x2]) (st := [.inl x4]) (rO := fun z => some (.inl z)) (mO := fun _ => M) zk_X5_faded zi_X5_faded q1179 rfl ⟨by decide, by decide⟩ ⟨rfl, rfl⟩ rfl rfl (Nat.le_of_ble_eq_true rfl) (by decide +kernel) (fun z hz => c_X5_faded hz) (fun v5 => ?_)
    change Sim l G Y_X11_curve lim _ _ 55 [none, none, some (.inl x2), some (.inr (.inr x3)), some (.inl x4), some (.inl x5)] [.inl v5, .inl x4] M
    refine s_run (b := [(.iadd, 1), (.istore 4, 2), (.iinc 5 1, 3), (.goto (-29), 3)]) 32 [none, none, some (.inl x2), some (.inr (.inr x3)), some (.inl (x4 + v5)), some (.inl (x5 + (1 : Int32)))] [] (by decide +kernel) rfl ?_
    exact s_lsub (ls' := [none, none, some (.inl x2), some (.inr (.inr x3)), some (.inl (x4 + v5)), some (.inl (x5 + (1 : Int32)))]) ⟨rfl, ⟨rfl, ⟨rfl, ⟨rfl, trivial⟩⟩⟩⟩ (kk1 (x4 + v5) (x5 + (1 : Int32)))
set_option maxRecDepth 20000 in
theorem L_X11_curve_32 {l : Launch} {G : Gv} {lim : Nat × Nat} (M : Mem) (x2 : Int32) (x3 : Nat) (x4 : Int32) (x5 : Int32) (K : ((Int32)) → Option (Option Value × Mem)) (kk2_0 : ∀ r : Int32, SimR l G Y_X11_curve lim (K r) 64 [none, none, none, none, some (.inl r), none] [] M) : Sim l G Y_X11_curve lim (f_X11_curve_L32 M x2 x3 x4 x5) K 32 [none, none, some (.inl x2), some (.inr (.inr x3)), some (.inl x4), some (.inl x5)] [] M :=
  s_iter (f := fun s : Int32 × Int32 => f_X11_curve_B32 M x2 x3 s.1 s.2) (hd := 32) (cl := fun s => [none, none, some (.inl x2), some (.inr (.inr x3)), some (.inl s.1), some (.inl s.2)]) (cm := fun s => M) (xp := fun _ => 64) (xl := fun r => [none, none, none, none, some (.inl r), none]) (xm := fun r => M) (fun s K h1 h2 => B_X11_curve_32 M x2 x3 s.1 s.2 K (fun a4 a5 => h1 (a4, a5)) (fun a4 => h2 a4)) 1048576 (x4, x5) K kk2_0
def f_X11_curve (M : Mem) (x0 : Nat) (x1 : Int32) (x2 : Int32) : Option (Int32) :=
  (gR M 11 x0 0).bind fun v1 =>
  (ob M 9 v1).bind fun _ => (f_X9_officeAt M v1 x1).bind fun v2 =>
  (if v2 = 0 then
    some (-1 : Int32)
  else
    (if x2 < (1 : Int32) then
      some (-1 : Int32)
    else
      (if x2 ≤ (12 : Int32) then
        (f_X11_curve_L32 M x2 v2 (0 : Int32) (0 : Int32)).bind fun r6 =>
        some r6
      else
        some (-1 : Int32))))
set_option maxRecDepth 20000 in
theorem S_X11_curve {l : Launch} {G : Gv} {lim : Nat × Nat} (M : Mem) (x0 : Nat) (x1 : Int32) (x2 : Int32) : Sim l G Y_X11_curve lim (f_X11_curve M x0 x1 x2) (fun z => some (some (.int z), M)) 0 [some (.inr (.inr x0)), some (.inl x1), some (.inl x2), none, none, none] [] M := by
  unfold f_X11_curve
  refine s_run (b := [(.aload_n 0, 1)]) 1 [some (.inr (.inr x0)), some (.inl x1), some (.inl x2), none, none, none] [.inr (.inr x0)] (by decide +kernel) rfl ?_
  refine s_gR fl_11_10 rfl (by decide +kernel) (fun v1 => ?_)
  refine s_run (b := [(.iload_n 1, 1)]) 5 [some (.inr (.inr x0)), some (.inl x1), some (.inl x2), none, none, none] [.inl x1, .inr (.inr v1)] (by decide +kernel) rfl ?_
  refine s_cV (Z := Y_X9_officeAt) (c := 9) (vs := [.inl x1]) (st := []) (rO := fun z => some (.inr (.inr z))) (mO := fun _ => M) zk_X9_officeAt zi_X9_officeAt q716 rfl ⟨by decide, by decide⟩ ⟨rfl, rfl⟩ rfl rfl (Nat.le_of_ble_eq_true rfl) (by decide +kernel) (fun z hz => c_X9_officeAt hz) (fun v2 => ?_)
  change Sim l G Y_X11_curve lim _ _ 8 [some (.inr (.inr x0)), some (.inl x1), some (.inl x2), none, none, none] [.inr (.inr v2)] M
  refine s_run (b := [(.astore_n 3, 1), (.aload_n 3, 1)]) 10 [some (.inr (.inr x0)), some (.inl x1), some (.inl x2), some (.inr (.inr v2)), none, none] [.inr (.inr v2)] (by decide +kernel) rfl ?_
  refine s_ifnull (tgt := 24) (off := 14) (by decide +kernel) (by decide) (fun h3 => ?_) (fun h3 => ?_)
  · skip
    refine s_run (b := [(.iconst (-1), 1)]) 25 [some (.inr (.inr x0)), some (.inl x1), some (.inl x2), some (.inr (.inr v2)), none, none] [.inl (-1 : Int32)] (by decide +kernel) rfl ?_
    exact s_iret (by decide +kernel) rfl
  · skip
    refine s_run (b := [(.iload_n 2, 1), (.iconst 1, 1)]) 15 [some (.inr (.inr x0)), some (.inl x1), some (.inl x2), some (.inr (.inr v2)), none, none] [.inl (1 : Int32), .inl x2] (by decide +kernel) rfl ?_
    refine s_ic_lt (tgt := 24) (off := 9) (by decide +kernel) (by decide) (fun h4 => ?_) (fun h4 => ?_)
    · skip
      refine s_run (b := [(.iconst (-1), 1)]) 25 [some (.inr (.inr x0)), some (.inl x1), some (.inl x2), some (.inr (.inr v2)), none, none] [.inl (-1 : Int32)] (by decide +kernel) rfl ?_
      exact s_iret (by decide +kernel) rfl
    · skip
      refine s_run (b := [(.iload_n 2, 1), (.bipush 12, 2)]) 21 [some (.inr (.inr x0)), some (.inl x1), some (.inl x2), some (.inr (.inr v2)), none, none] [.inl (12 : Int32), .inl x2] (by decide +kernel) rfl ?_
      refine s_ic_le (tgt := 26) (off := 5) (by decide +kernel) (by decide) (fun h5 => ?_) (fun h5 => ?_)
      · skip
        refine s_run (b := [(.iconst 0, 1), (.istore 4, 2), (.iconst 0, 1), (.istore 5, 2)]) 32 [some (.inr (.inr x0)), some (.inl x1), some (.inl x2), some (.inr (.inr v2)), some (.inl (0 : Int32)), some (.inl (0 : Int32))] [] (by decide +kernel) rfl ?_
        refine s_lsub (ls' := [none, none, some (.inl x2), some (.inr (.inr v2)), some (.inl (0 : Int32)), some (.inl (0 : Int32))]) ⟨rfl, ⟨rfl, ⟨rfl, ⟨rfl, trivial⟩⟩⟩⟩ ?_
        refine sim_bind (L_X11_curve_32 M x2 v2 (0 : Int32) (0 : Int32) _ (fun r6 => ?_))
        change Sim l G Y_X11_curve lim _ _ 64 [none, none, none, none, some (.inl r6), none] [] M
        refine s_run (b := [(.iload 4, 2)]) 66 [none, none, none, none, some (.inl r6), none] [.inl r6] (by decide +kernel) rfl ?_
        exact s_iret (by decide +kernel) rfl
      · skip
        refine s_run (b := [(.iconst (-1), 1)]) 25 [some (.inr (.inr x0)), some (.inl x1), some (.inl x2), some (.inr (.inr v2)), none, none] [.inl (-1 : Int32)] (by decide +kernel) rfl ?_
        exact s_iret (by decide +kernel) rfl
set_option maxRecDepth 20000 in
theorem c_X11_curve {l : Launch} {G : Gv} {M : Mem} {x0 : Nat} {x1 : Int32} {x2 : Int32} {z : Int32} (h : f_X11_curve M x0 x1 x2 = some z) : MetS l G Y_X11_curve [.inr (.inr x0), .inl x1, .inl x2] M (some (.int z)) M :=
  met_of (ls0 := [some (.inr (.inr x0)), some (.inl x1), some (.inl x2), none, none, none]) (by decide) rfl (lv_in (m := 3) rfl) (sl_le (Nat.le_of_ble_eq_true rfl)) (by rw [h]; rfl) (Or.inl ⟨rfl, rfl⟩) (S_X11_curve M x0 x1 x2)
def f_X1_tell (M : Mem) (x0 : Nat) (x1 : Int32) (x2 : Int32) : Option (Int32) :=
  (if x1 < 0 then
    some (-2 : Int32)
  else
    (gI M 1 x0 0).bind fun v2 =>
    (if v2 ≤ x1 then
      some (-2 : Int32)
    else
      (if x2 < 0 then
        some (-2 : Int32)
      else
        (if x2 ≤ (1 : Int32) then
          (if x2 = 0 then
            (gR M 1 x0 1).bind fun v7 =>
            (aI M 0 v7 x1).bind fun v8 =>
            some v8
          else
            (gR M 1 x0 2).bind fun v9 =>
            (aI M 0 v9 x1).bind fun v10 =>
            some v10)
        else
          some (-2 : Int32)))))
set_option maxRecDepth 20000 in
theorem S_X1_tell {l : Launch} {G : Gv} {lim : Nat × Nat} (M : Mem) (x0 : Nat) (x1 : Int32) (x2 : Int32) : Sim l G Y_X1_tell lim (f_X1_tell M x0 x1 x2) (fun z => some (some (.int z), M)) 0 [some (.inr (.inr x0)), some (.inl x1), some (.inl x2)] [] M := by
  unfold f_X1_tell
  refine s_run (b := [(.iload_n 1, 1)]) 1 [some (.inr (.inr x0)), some (.inl x1), some (.inl x2)] [.inl x1] (by decide +kernel) rfl ?_
  refine s_if_lt (tgt := 21) (off := 20) (by decide +kernel) (by decide) (fun h1 => ?_) (fun h1 => ?_)
  · skip
    refine s_run (b := [(.bipush (-2), 2)]) 23 [some (.inr (.inr x0)), some (.inl x1), some (.inl x2)] [.inl (-2 : Int32)] (by decide +kernel) rfl ?_
    exact s_iret (by decide +kernel) rfl
  · skip
    refine s_run (b := [(.iload_n 1, 1), (.aload_n 0, 1)]) 6 [some (.inr (.inr x0)), some (.inl x1), some (.inl x2)] [.inr (.inr x0), .inl x1] (by decide +kernel) rfl ?_
    refine s_gI fl_1_18 rfl (by decide +kernel) (fun v2 => ?_)
    refine s_ic_ge (tgt := 21) (off := 12) (by decide +kernel) (by decide) (fun h3 => ?_) (fun h3 => ?_)
    · skip
      refine s_run (b := [(.bipush (-2), 2)]) 23 [some (.inr (.inr x0)), some (.inl x1), some (.inl x2)] [.inl (-2 : Int32)] (by decide +kernel) rfl ?_
      exact s_iret (by decide +kernel) rfl
    · skip
      refine s_run (b := [(.iload_n 2, 1)]) 13 [some (.inr (.inr x0)), some (.inl x1), some (.inl x2)] [.inl x2] (by decide +kernel) rfl ?_
      refine s_if_lt (tgt := 21) (off := 8) (by decide +kernel) (by decide) (fun h4 => ?_) (fun h4 => ?_)
      · skip
        refine s_run (b := [(.bipush (-2), 2)]) 23 [some (.inr (.inr x0)), some (.inl x1), some (.inl x2)] [.inl (-2 : Int32)] (by decide +kernel) rfl ?_
        exact s_iret (by decide +kernel) rfl
      · skip
        refine s_run (b := [(.iload_n 2, 1), (.iconst 1, 1)]) 18 [some (.inr (.inr x0)), some (.inl x1), some (.inl x2)] [.inl (1 : Int32), .inl x2] (by decide +kernel) rfl ?_
        refine s_ic_le (tgt := 24) (off := 6) (by decide +kernel) (by decide) (fun h5 => ?_) (fun h5 => ?_)
        · skip
          refine s_run (b := [(.iload_n 2, 1)]) 25 [some (.inr (.inr x0)), some (.inl x1), some (.inl x2)] [.inl x2] (by decide +kernel) rfl ?_
          refine s_if_ne (tgt := 37) (off := 12) (by decide +kernel) (by decide) (fun h6 => ?_) (fun h6 => ?_)
          · skip
            refine s_run (b := [(.aload_n 0, 1)]) 29 [some (.inr (.inr x0)), some (.inl x1), some (.inl x2)] [.inr (.inr x0)] (by decide +kernel) rfl ?_
            refine s_gR fl_1_9 rfl (by decide +kernel) (fun v7 => ?_)
            refine s_run (b := [(.iload_n 1, 1)]) 33 [some (.inr (.inr x0)), some (.inl x1), some (.inl x2)] [.inl x1, .inr (.inr v7)] (by decide +kernel) rfl ?_
            refine s_ia (by decide +kernel) (fun v8 => ?_)
            refine s_run (b := [(.goto 9, 3)]) 43 [some (.inr (.inr x0)), some (.inl x1), some (.inl x2)] [.inl v8] (by decide +kernel) rfl ?_
            exact s_iret (by decide +kernel) rfl
          · skip
            refine s_run (b := [(.aload_n 0, 1)]) 38 [some (.inr (.inr x0)), some (.inl x1), some (.inl x2)] [.inr (.inr x0)] (by decide +kernel) rfl ?_
            refine s_gR fl_1_15 rfl (by decide +kernel) (fun v9 => ?_)
            refine s_run (b := [(.iload_n 1, 1)]) 42 [some (.inr (.inr x0)), some (.inl x1), some (.inl x2)] [.inl x1, .inr (.inr v9)] (by decide +kernel) rfl ?_
            refine s_ia (by decide +kernel) (fun v10 => ?_)
            exact s_iret (by decide +kernel) rfl
        · skip
          refine s_run (b := [(.bipush (-2), 2)]) 23 [some (.inr (.inr x0)), some (.inl x1), some (.inl x2)] [.inl (-2 : Int32)] (by decide +kernel) rfl ?_
          exact s_iret (by decide +kernel) rfl
set_option maxRecDepth 20000 in
theorem c_X1_tell {l : Launch} {G : Gv} {M : Mem} {x0 : Nat} {x1 : Int32} {x2 : Int32} {z : Int32} (h : f_X1_tell M x0 x1 x2 = some z) : MetS l G Y_X1_tell [.inr (.inr x0), .inl x1, .inl x2] M (some (.int z)) M :=
  met_of (ls0 := [some (.inr (.inr x0)), some (.inl x1), some (.inl x2)]) (by decide) rfl (lv_in (m := 0) rfl) (sl_le (Nat.le_of_ble_eq_true rfl)) (by rw [h]; rfl) (Or.inl ⟨rfl, rfl⟩) (S_X1_tell M x0 x1 x2)
def f_X11_deed_J33 (M : Mem) (x2 : Int32) (x3 : Int32) (x4 : Nat)  : Option (Int32) :=
  (ob M 1 x4).bind fun _ => (f_X1_tell M x4 x2 x3).bind fun v1 =>
  some v1
set_option maxRecDepth 20000 in
theorem J_X11_deed_33 {l : Launch} {G : Gv} {lim : Nat × Nat} (M : Mem) (x2 : Int32) (x3 : Int32) (x4 : Nat)   : Sim l G Y_X11_deed lim (f_X11_deed_J33 M x2 x3 x4) (fun z => some (some (.int z), M)) 33 [none, none, some (.inl x2), some (.inl x3), some (.inr (.inr x4))] [] M := by
  unfold f_X11_deed_J33
  refine s_run (b := [(.aload 4, 2), (.iload_n 2, 1), (.iload_n 3, 1)]) 37 [none, none, some (.inl x2), some (.inl x3), some (.inr (.inr x4))] [.inl x3, .inl x2, .inr (.inr x4)] (by decide +kernel) rfl ?_
  refine s_cV (Z := Y_X1_tell) (c := 1) (vs := [.inl x2, .inl x3]) (st := []) (rO := fun z => some (.inl z)) (mO := fun _ => M) zk_X1_tell zi_X1_tell q748 rfl ⟨by decide, by decide⟩ ⟨rfl, rfl⟩ rfl rfl (Nat.le_of_ble_eq_true rfl) (by decide +kernel) (fun z hz => c_X1_tell hz) (fun v1 => ?_)
  change Sim l G Y_X11_deed lim _ _ 40 [none, none, some (.inl x2), some (.inl x3), some (.inr (.inr x4))] [.inl v1] M
  exact s_iret (by decide +kernel) rfl
def f_X11_deed (M : Mem) (x0 : Nat) (x1 : Int32) (x2 : Int32) (x3 : Int32) : Option (Int32) :=
  (gR M 11 x0 0).bind fun v1 =>
  (ob M 9 v1).bind fun _ => (f_X9_dayAt M v1 x1).bind fun v2 =>
  (if v2 = 0 then
    some (-2 : Int32)
  else
    (if x2 = (-1 : Int32) then
      (if x3 = 0 then
        (gI M 1 v2 0).bind fun v6 =>
        some v6
      else
        f_X11_deed_J33 M x2 x3 v2 )
    else
      f_X11_deed_J33 M x2 x3 v2 ))
set_option maxRecDepth 20000 in
theorem S_X11_deed {l : Launch} {G : Gv} {lim : Nat × Nat} (M : Mem) (x0 : Nat) (x1 : Int32) (x2 : Int32) (x3 : Int32) : Sim l G Y_X11_deed lim (f_X11_deed M x0 x1 x2 x3) (fun z => some (some (.int z), M)) 0 [some (.inr (.inr x0)), some (.inl x1), some (.inl x2), some (.inl x3), none] [] M := by
  unfold f_X11_deed
  refine s_run (b := [(.aload_n 0, 1)]) 1 [some (.inr (.inr x0)), some (.inl x1), some (.inl x2), some (.inl x3), none] [.inr (.inr x0)] (by decide +kernel) rfl ?_
  refine s_gR fl_11_10 rfl (by decide +kernel) (fun v1 => ?_)
  refine s_run (b := [(.iload_n 1, 1)]) 5 [some (.inr (.inr x0)), some (.inl x1), some (.inl x2), some (.inl x3), none] [.inl x1, .inr (.inr v1)] (by decide +kernel) rfl ?_
  refine s_cV (Z := Y_X9_dayAt) (c := 9) (vs := [.inl x1]) (st := []) (rO := fun z => some (.inr (.inr z))) (mO := fun _ => M) zk_X9_dayAt zi_X9_dayAt q744 rfl ⟨by decide, by decide⟩ ⟨rfl, rfl⟩ rfl rfl (Nat.le_of_ble_eq_true rfl) (by decide +kernel) (fun z hz => c_X9_dayAt hz) (fun v2 => ?_)
  change Sim l G Y_X11_deed lim _ _ 8 [some (.inr (.inr x0)), some (.inl x1), some (.inl x2), some (.inl x3), none] [.inr (.inr v2)] M
  refine s_run (b := [(.astore 4, 2), (.aload 4, 2)]) 12 [some (.inr (.inr x0)), some (.inl x1), some (.inl x2), some (.inl x3), some (.inr (.inr v2))] [.inr (.inr v2)] (by decide +kernel) rfl ?_
  refine s_ifnonnull (tgt := 18) (off := 6) (by decide +kernel) (by decide) (fun h3 => ?_) (fun h3 => ?_)
  · skip
    refine s_run (b := [(.bipush (-2), 2)]) 17 [some (.inr (.inr x0)), some (.inl x1), some (.inl x2), some (.inl x3), some (.inr (.inr v2))] [.inl (-2 : Int32)] (by decide +kernel) rfl ?_
    exact s_iret (by decide +kernel) rfl
  · skip
    refine s_run (b := [(.iload_n 2, 1), (.iconst (-1), 1)]) 20 [some (.inr (.inr x0)), some (.inl x1), some (.inl x2), some (.inl x3), some (.inr (.inr v2))] [.inl (-1 : Int32), .inl x2] (by decide +kernel) rfl ?_
    refine s_ic_ne (tgt := 33) (off := 13) (by decide +kernel) (by decide) (fun h4 => ?_) (fun h4 => ?_)
    · skip
      refine s_run (b := [(.iload_n 3, 1)]) 24 [some (.inr (.inr x0)), some (.inl x1), some (.inl x2), some (.inl x3), some (.inr (.inr v2))] [.inl x3] (by decide +kernel) rfl ?_
      refine s_if_ne (tgt := 33) (off := 9) (by decide +kernel) (by decide) (fun h5 => ?_) (fun h5 => ?_)
      · skip
        refine s_run (b := [(.aload 4, 2)]) 29 [some (.inr (.inr x0)), some (.inl x1), some (.inl x2), some (.inl x3), some (.inr (.inr v2))] [.inr (.inr v2)] (by decide +kernel) rfl ?_
        refine s_gI fl_11_119 rfl (by decide +kernel) (fun v6 => ?_)
        exact s_iret (by decide +kernel) rfl
      · skip
        exact s_lsub (ls' := [none, none, some (.inl x2), some (.inl x3), some (.inr (.inr v2))]) ⟨rfl, ⟨rfl, ⟨rfl, trivial⟩⟩⟩ (J_X11_deed_33 M x2 x3 v2 )
    · skip
      exact s_lsub (ls' := [none, none, some (.inl x2), some (.inl x3), some (.inr (.inr v2))]) ⟨rfl, ⟨rfl, ⟨rfl, trivial⟩⟩⟩ (J_X11_deed_33 M x2 x3 v2 )
set_option maxRecDepth 20000 in
theorem c_X11_deed {l : Launch} {G : Gv} {M : Mem} {x0 : Nat} {x1 : Int32} {x2 : Int32} {x3 : Int32} {z : Int32} (h : f_X11_deed M x0 x1 x2 x3 = some z) : MetS l G Y_X11_deed [.inr (.inr x0), .inl x1, .inl x2, .inl x3] M (some (.int z)) M :=
  met_of (ls0 := [some (.inr (.inr x0)), some (.inl x1), some (.inl x2), some (.inl x3), none]) (by decide) rfl (lv_in (m := 1) rfl) (sl_le (Nat.le_of_ble_eq_true rfl)) (by rw [h]; rfl) (Or.inl ⟨rfl, rfl⟩) (S_X11_deed M x0 x1 x2 x3)
def f_X2_drawBelow (M : Mem) (x0 : Nat) (x1 : Int32) : Option (Int32 × Mem) :=
  (gI M 2 x0 8).bind fun v1 =>
  (pI M 2 x0 8 ((v1 * (1103515245 : Int32)) + (12345 : Int32))).bind fun M2 =>
  (if x1 ≤ 0 then
    some ((0 : Int32), M2)
  else
    (gI M2 2 x0 8).bind fun v4 =>
    (rmI (shr v4 (16 : Int32)) x1).bind fun v5 =>
    some (v5, M2))
set_option maxRecDepth 20000 in
theorem S_X2_drawBelow {l : Launch} {G : Gv} {lim : Nat × Nat} (M : Mem) (x0 : Nat) (x1 : Int32) : Sim l G Y_X2_drawBelow lim (f_X2_drawBelow M x0 x1) (fun z => some (some (.int z.1), z.2)) 0 [some (.inr (.inr x0)), some (.inl x1)] [] M := by
  unfold f_X2_drawBelow
  refine s_run (b := [(.aload_n 0, 1), (.aload_n 0, 1)]) 2 [some (.inr (.inr x0)), some (.inl x1)] [.inr (.inr x0), .inr (.inr x0)] (by decide +kernel) rfl ?_
  refine s_gI fl_2_86 rfl (by decide +kernel) (fun v1 => ?_)
  refine s_ldc q1052 (by decide +kernel) ?_
  change Sim l G Y_X2_drawBelow lim _ _ 7 [some (.inr (.inr x0)), some (.inl x1)] [.inl (1103515245 : Int32), .inl v1, .inr (.inr x0)] M
  refine s_run (b := [(.imul, 1), (.sipush 12345, 3), (.iadd, 1)]) 12 [some (.inr (.inr x0)), some (.inl x1)] [.inl ((v1 * (1103515245 : Int32)) + (12345 : Int32)), .inr (.inr x0)] (by decide +kernel) rfl ?_
  refine s_pI fl_2_86 (Or.inl rfl) rfl (by decide +kernel) (fun M2 => ?_)
  refine s_run (b := [(.iload_n 1, 1)]) 16 [some (.inr (.inr x0)), some (.inl x1)] [.inl x1] (by decide +kernel) rfl ?_
  refine s_if_le (tgt := 31) (off := 15) (by decide +kernel) (by decide) (fun h3 => ?_) (fun h3 => ?_)
  · skip
    refine s_run (b := [(.iconst 0, 1)]) 32 [some (.inr (.inr x0)), some (.inl x1)] [.inl (0 : Int32)] (by decide +kernel) rfl ?_
    exact s_iret (by decide +kernel) rfl
  · skip
    refine s_run (b := [(.aload_n 0, 1)]) 20 [some (.inr (.inr x0)), some (.inl x1)] [.inr (.inr x0)] (by decide +kernel) rfl ?_
    refine s_gI fl_2_86 rfl (by decide +kernel) (fun v4 => ?_)
    refine s_run (b := [(.bipush 16, 2), (.iushr, 1), (.iload_n 1, 1)]) 27 [some (.inr (.inr x0)), some (.inl x1)] [.inl x1, .inl (shr v4 (16 : Int32))] (by decide +kernel) rfl ?_
    refine s_irem (by decide +kernel) (fun v5 => ?_)
    refine s_run (b := [(.goto 4, 3)]) 32 [some (.inr (.inr x0)), some (.inl x1)] [.inl v5] (by decide +kernel) rfl ?_
    exact s_iret (by decide +kernel) rfl
set_option maxRecDepth 20000 in
theorem c_X2_drawBelow {l : Launch} {G : Gv} {M : Mem} {x0 : Nat} {x1 : Int32} {z : Int32 × Mem} (h : f_X2_drawBelow M x0 x1 = some z) : MetS l G Y_X2_drawBelow [.inr (.inr x0), .inl x1] M (some (.int z.1)) z.2 :=
  met_of (ls0 := [some (.inr (.inr x0)), some (.inl x1)]) (by decide) rfl (lv_in (m := 0) rfl) (sl_le (Nat.le_of_ble_eq_true rfl)) (by rw [h]; rfl) (Or.inl ⟨rfl, rfl⟩) (S_X2_drawBelow M x0 x1)
def f_X2_playDrawn_J83 (M : Mem) (x0 : Nat) (x1 : Nat) (x3 : Int32) (x4 : Int32) (x6 : Int32) (y0 : Int32) : Option ((Int32 × Mem) ⊕ ((Mem))) :=
  (ob M 2 x0).bind fun _ => (f_X2_drawBelow M x0 x6).bind fun z1 =>
  (ob z1.2 2 x0).bind fun _ => (f_X2_act z1.2 x0 y0 z1.1).bind fun z2 =>
  some (.inl ((x4 + (1 : Int32)), z2.2))
set_option maxRecDepth 20000 in
theorem J_X2_playDrawn_83 {l : Launch} {G : Gv} {lim : Nat × Nat} (M : Mem) (x0 : Nat) (x1 : Nat) (x3 : Int32) (x4 : Int32) (x6 : Int32) (y0 : Int32) (K : (Int32 × Mem) ⊕ ((Mem)) → Option (Option Value × Mem)) (kk1 : ∀ (s4 : Int32) (s_ : Mem), SimR l G Y_X2_playDrawn lim (K (.inl (s4, s_))) 13 [some (.inr (.inr x0)), some (.inr (.inr x1)), none, some (.inl x3), some (.inl s4), none, none, none] [] s_) (kk2_0 : ∀ (s_ : Mem), SimR l G Y_X2_playDrawn lim (K (.inr s_)) 104 [none, none, none, none, none, none, none, none] [] s_) : Sim l G Y_X2_playDrawn lim (f_X2_playDrawn_J83 M x0 x1 x3 x4 x6 y0) K 83 [some (.inr (.inr x0)), some (.inr (.inr x1)), none, some (.inl x3), some (.inl x4), none, some (.inl x6), none] [.inl y0] M := by
  unfold f_X2_playDrawn_J83
  refine s_run (b := [(.istore 7, 2), (.aload_n 0, 1), (.iload 7, 2), (.aload_n 0, 1), (.iload 6, 2)]) 91 [some (.inr (.inr x0)), some (.inr (.inr x1)), none, some (.inl x3), some (.inl x4), none, some (.inl x6), some (.inl y0)] [.inl x6, .inr (.inr x0), .inl y0, .inr (.inr x0)] (by decide +kernel) rfl ?_
  refine s_cV (Z := Y_X2_drawBelow) (c := 2) (vs := [.inl x6]) (st := [.inl y0, .inr (.inr x0)]) (rO := fun z => some (.inl z.1)) (mO := fun z => z.2) zk_X2_drawBelow zi_X2_drawBelow q1048 rfl ⟨by decide, by decide⟩ ⟨rfl, rfl⟩ rfl rfl (Nat.le_of_ble_eq_true rfl) (by decide +kernel) (fun z hz => c_X2_drawBelow hz) (fun z1 => ?_)
  change Sim l G Y_X2_playDrawn lim _ _ 94 [some (.inr (.inr x0)), some (.inr (.inr x1)), none, some (.inl x3), some (.inl x4), none, some (.inl x6), some (.inl y0)] [.inl z1.1, .inl y0, .inr (.inr x0)] z1.2
  refine s_cV (Z := Y_X2_act) (c := 2) (vs := [.inl y0, .inl z1.1]) (st := []) (rO := fun z => some (.inl z.1)) (mO := fun z => z.2) zk_X2_act zi_X2_act q769 rfl ⟨by decide, by decide⟩ ⟨rfl, rfl⟩ rfl rfl (Nat.le_of_ble_eq_true rfl) (by decide +kernel) (fun z hz => c_X2_act hz) (fun z2 => ?_)
  change Sim l G Y_X2_playDrawn lim _ _ 97 [some (.inr (.inr x0)), some (.inr (.inr x1)), none, some (.inl x3), some (.inl x4), none, some (.inl x6), some (.inl y0)] [.inl z2.1] z2.2
  refine s_run (b := [(.pop, 1), (.iinc 4 1, 3), (.goto (-88), 3)]) 13 [some (.inr (.inr x0)), some (.inr (.inr x1)), none, some (.inl x3), some (.inl (x4 + (1 : Int32))), none, some (.inl x6), some (.inl y0)] [] (by decide +kernel) rfl ?_
  exact s_lsub (ls' := [some (.inr (.inr x0)), some (.inr (.inr x1)), none, some (.inl x3), some (.inl (x4 + (1 : Int32))), none, none, none]) ⟨rfl, ⟨rfl, ⟨rfl, ⟨rfl, trivial⟩⟩⟩⟩ (kk1 (x4 + (1 : Int32)) z2.2)
def f_X2_playDrawn_J44 (M : Mem) (x0 : Nat) (x1 : Nat) (x3 : Int32) (x4 : Int32) (x5 : Int32) (y0 : Int32) : Option ((Int32 × Mem) ⊕ ((Mem))) :=
  (if y0 ≤ 0 then
    some (.inl ((x4 + (1 : Int32)), M))
  else
    (if (4 : Int32) ≤ x5 then
      (if x5 = (4 : Int32) then
        f_X2_playDrawn_J83 M x0 x1 x3 x4 y0 (1 : Int32)
      else
        (if x5 = (7 : Int32) then
          f_X2_playDrawn_J83 M x0 x1 x3 x4 y0 (3 : Int32)
        else
          f_X2_playDrawn_J83 M x0 x1 x3 x4 y0 (2 : Int32)))
    else
      f_X2_playDrawn_J83 M x0 x1 x3 x4 y0 (0 : Int32)))
set_option maxRecDepth 20000 in
theorem J_X2_playDrawn_44 {l : Launch} {G : Gv} {lim : Nat × Nat} (M : Mem) (x0 : Nat) (x1 : Nat) (x3 : Int32) (x4 : Int32) (x5 : Int32) (y0 : Int32) (K : (Int32 × Mem) ⊕ ((Mem)) → Option (Option Value × Mem)) (kk1 : ∀ (s4 : Int32) (s_ : Mem), SimR l G Y_X2_playDrawn lim (K (.inl (s4, s_))) 13 [some (.inr (.inr x0)), some (.inr (.inr x1)), none, some (.inl x3), some (.inl s4), none, none, none] [] s_) (kk2_0 : ∀ (s_ : Mem), SimR l G Y_X2_playDrawn lim (K (.inr s_)) 104 [none, none, none, none, none, none, none, none] [] s_) : Sim l G Y_X2_playDrawn lim (f_X2_playDrawn_J44 M x0 x1 x3 x4 x5 y0) K 44 [some (.inr (.inr x0)), some (.inr (.inr x1)), none, some (.inl x3), some (.inl x4), some (.inl x5), none, none] [.inl y0] M := by
  unfold f_X2_playDrawn_J44
  refine s_run (b := [(.istore 6, 2), (.iload 6, 2)]) 48 [some (.inr (.inr x0)), some (.inr (.inr x1)), none, some (.inl x3), some (.inl x4), some (.inl x5), some (.inl y0), none] [.inl y0] (by decide +kernel) rfl ?_
  refine s_if_le (tgt := 98) (off := 50) (by decide +kernel) (by decide) (fun h1 => ?_) (fun h1 => ?_)
  · skip
    refine s_run (b := [(.iinc 4 1, 3), (.goto (-88), 3)]) 13 [some (.inr (.inr x0)), some (.inr (.inr x1)), none, some (.inl x3), some (.inl (x4 + (1 : Int32))), some (.inl x5), some (.inl y0), none] [] (by decide +kernel) rfl ?_
    exact s_lsub (ls' := [some (.inr (.inr x0)), some (.inr (.inr x1)), none, some (.inl x3), some (.inl (x4 + (1 : Int32))), none, none, none]) ⟨rfl, ⟨rfl, ⟨rfl, ⟨rfl, trivial⟩⟩⟩⟩ (kk1 (x4 + (1 : Int32)) M)
  · skip
    refine s_run (b := [(.iload 5, 2), (.iconst 4, 1)]) 54 [some (.inr (.inr x0)), some (.inr (.inr x1)), none, some (.inl x3), some (.inl x4), some (.inl x5), some (.inl y0), none] [.inl (4 : Int32), .inl x5] (by decide +kernel) rfl ?_
    refine s_ic_ge (tgt := 61) (off := 7) (by decide +kernel) (by decide) (fun h2 => ?_) (fun h2 => ?_)
    · skip
      refine s_run (b := [(.iload 5, 2), (.iconst 4, 1)]) 64 [some (.inr (.inr x0)), some (.inr (.inr x1)), none, some (.inl x3), some (.inl x4), some (.inl x5), some (.inl y0), none] [.inl (4 : Int32), .inl x5] (by decide +kernel) rfl ?_
      refine s_ic_ne (tgt := 71) (off := 7) (by decide +kernel) (by decide) (fun h3 => ?_) (fun h3 => ?_)
      · skip
        refine s_run (b := [(.iconst 1, 1), (.goto 15, 3)]) 83 [some (.inr (.inr x0)), some (.inr (.inr x1)), none, some (.inl x3), some (.inl x4), some (.inl x5), some (.inl y0), none] [.inl (1 : Int32)] (by decide +kernel) rfl ?_
        exact s_lsub (ls' := [some (.inr (.inr x0)), some (.inr (.inr x1)), none, some (.inl x3), some (.inl x4), none, some (.inl y0), none]) ⟨rfl, ⟨rfl, ⟨rfl, ⟨rfl, ⟨rfl, trivial⟩⟩⟩⟩⟩ (J_X2_playDrawn_83 M x0 x1 x3 x4 y0 (1 : Int32) K kk1 kk2_0)
      · skip
        refine s_run (b := [(.iload 5, 2), (.bipush 7, 2)]) 75 [some (.inr (.inr x0)), some (.inr (.inr x1)), none, some (.inl x3), some (.inl x4), some (.inl x5), some (.inl y0), none] [.inl (7 : Int32), .inl x5] (by decide +kernel) rfl ?_
        refine s_ic_ne (tgt := 82) (off := 7) (by decide +kernel) (by decide) (fun h4 => ?_) (fun h4 => ?_)
        · skip
          refine s_run (b := [(.iconst 3, 1), (.goto 4, 3)]) 83 [some (.inr (.inr x0)), some (.inr (.inr x1)), none, some (.inl x3), some (.inl x4), some (.inl x5), some (.inl y0), none] [.inl (3 : Int32)] (by decide +kernel) rfl ?_
          exact s_lsub (ls' := [some (.inr (.inr x0)), some (.inr (.inr x1)), none, some (.inl x3), some (.inl x4), none, some (.inl y0), none]) ⟨rfl, ⟨rfl, ⟨rfl, ⟨rfl, ⟨rfl, trivial⟩⟩⟩⟩⟩ (J_X2_playDrawn_83 M x0 x1 x3 x4 y0 (3 : Int32) K kk1 kk2_0)
        · skip
          refine s_run (b := [(.iconst 2, 1)]) 83 [some (.inr (.inr x0)), some (.inr (.inr x1)), none, some (.inl x3), some (.inl x4), some (.inl x5), some (.inl y0), none] [.inl (2 : Int32)] (by decide +kernel) rfl ?_
          exact s_lsub (ls' := [some (.inr (.inr x0)), some (.inr (.inr x1)), none, some (.inl x3), some (.inl x4), none, some (.inl y0), none]) ⟨rfl, ⟨rfl, ⟨rfl, ⟨rfl, ⟨rfl, trivial⟩⟩⟩⟩⟩ (J_X2_playDrawn_83 M x0 x1 x3 x4 y0 (2 : Int32) K kk1 kk2_0)
    · skip
      refine s_run (b := [(.iconst 0, 1), (.goto 25, 3)]) 83 [some (.inr (.inr x0)), some (.inr (.inr x1)), none, some (.inl x3), some (.inl x4), some (.inl x5), some (.inl y0), none] [.inl (0 : Int32)] (by decide +kernel) rfl ?_
      exact s_lsub (ls' := [some (.inr (.inr x0)), some (.inr (.inr x1)), none, some (.inl x3), some (.inl x4), none, some (.inl y0), none]) ⟨rfl, ⟨rfl, ⟨rfl, ⟨rfl, ⟨rfl, trivial⟩⟩⟩⟩⟩ (J_X2_playDrawn_83 M x0 x1 x3 x4 y0 (0 : Int32) K kk1 kk2_0)
def f_X2_playDrawn_B13 (M : Mem) (x0 : Nat) (x1 : Nat) (x3 : Int32) (x4 : Int32) : Option ((Int32 × Mem) ⊕ ((Mem))) :=
  (if x3 ≤ x4 then
    some (.inr M)
  else
    (ob M 2 x0).bind fun _ => (f_X2_drawBelow M x0 (8 : Int32)).bind fun z2 =>
    (if (4 : Int32) ≤ z2.1 then
      (gI z2.2 5 x1 0).bind fun v4 =>
      f_X2_playDrawn_J44 z2.2 x0 x1 x3 x4 z2.1 v4
    else
      (gI z2.2 5 x1 1).bind fun v5 =>
      f_X2_playDrawn_J44 z2.2 x0 x1 x3 x4 z2.1 v5))
def f_X2_playDrawn_L13 (M : Mem) (x0 : Nat) (x1 : Nat) (x3 : Int32) (x4 : Int32) : Option ((Mem)) := iter (fun s : Int32 × Mem => f_X2_playDrawn_B13 s.2 x0 x1 x3 s.1) 1048576 (x4, M)
set_option maxRecDepth 20000 in
theorem B_X2_playDrawn_13 {l : Launch} {G : Gv} {lim : Nat × Nat} (M : Mem) (x0 : Nat) (x1 : Nat) (x3 : Int32) (x4 : Int32) (K : (Int32 × Mem) ⊕ ((Mem)) → Option (Option Value × Mem)) (kk1 : ∀ (s4 : Int32) (s_ : Mem), SimR l G Y_X2_playDrawn lim (K (.inl (s4, s_))) 13 [some (.inr (.inr x0)), some (.inr (.inr x1)), none, some (.inl x3), some (.inl s4), none, none, none] [] s_) (kk2_0 : ∀ (s_ : Mem), SimR l G Y_X2_playDrawn lim (K (.inr s_)) 104 [none, none, none, none, none, none, none, none] [] s_) : Sim l G Y_X2_playDrawn lim (f_X2_playDrawn_B13 M x0 x1 x3 x4) K 13 [some (.inr (.inr x0)), some (.inr (.inr x1)), none, some (.inl x3), some (.inl x4), none, none, none] [] M := by
  unfold f_X2_playDrawn_B13
  refine s_run (b := [(.iload 4, 2), (.iload_n 3, 1)]) 16 [some (.inr (.inr x0)), some (.inr (.inr x1)), none, some (.inl x3), some (.inl x4), none, none, none] [.inl x3, .inl x4] (by decide +kernel) rfl ?_
  refine s_ic_ge (tgt := 104) (off := 88) (by decide +kernel) (by decide) (fun h1 => ?_) (fun h1 => ?_)
  · skip
    exact s_lsub (ls' := [none, none, none, none, none, none, none, none]) trivial (kk2_0 M)
  · skip
    refine s_run (b := [(.aload_n 0, 1), (.bipush 8, 2)]) 22 [some (.inr (.inr x0)), some (.inr (.inr x1)), none, some (.inl x3), some (.inl x4), none, none, none] [.inl (8 : Int32), .inr (.inr x0)] (by decide +kernel) rfl ?_
    refine s_cV (Z := Y_X2_drawBelow) (c := 2) (vs := [.inl (8 : Int32)]) (st := []) (rO := fun z => some (.inl z.1)) (mO := fun z => z.2) zk_X2_drawBelow zi_X2_drawBelow q1048 rfl ⟨by decide, by decide⟩ ⟨rfl, rfl⟩ rfl rfl (Nat.le_of_ble_eq_true rfl) (by decide +kernel) (fun z hz => c_X2_drawBelow hz) (fun z2 => ?_)
    change Sim l G Y_X2_playDrawn lim _ _ 25 [some (.inr (.inr x0)), some (.inr (.inr x1)), none, some (.inl x3), some (.inl x4), none, none, none] [.inl z2.1] z2.2
    refine s_run (b := [(.istore 5, 2), (.iload 5, 2), (.iconst 4, 1)]) 30 [some (.inr (.inr x0)), some (.inr (.inr x1)), none, some (.inl x3), some (.inl x4), some (.inl z2.1), none, none] [.inl (4 : Int32), .inl z2.1] (by decide +kernel) rfl ?_
    refine s_ic_ge (tgt := 40) (off := 10) (by decide +kernel) (by decide) (fun h3 => ?_) (fun h3 => ?_)
    · skip
      refine s_run (b := [(.aload_n 1, 1)]) 41 [some (.inr (.inr x0)), some (.inr (.inr x1)), none, some (.inl x3), some (.inl x4), some (.inl z2.1), none, none] [.inr (.inr x1)] (by decide +kernel) rfl ?_
      refine s_gI fl_2_96 rfl (by decide +kernel) (fun v4 => ?_)
      exact s_lsub (ls' := [some (.inr (.inr x0)), some (.inr (.inr x1)), none, some (.inl x3), some (.inl x4), some (.inl z2.1), none, none]) ⟨rfl, ⟨rfl, ⟨rfl, ⟨rfl, ⟨rfl, trivial⟩⟩⟩⟩⟩ (J_X2_playDrawn_44 z2.2 x0 x1 x3 x4 z2.1 v4 K kk1 kk2_0)
    · skip
      refine s_run (b := [(.aload_n 1, 1)]) 34 [some (.inr (.inr x0)), some (.inr (.inr x1)), none, some (.inl x3), some (.inl x4), some (.inl z2.1), none, none] [.inr (.inr x1)] (by decide +kernel) rfl ?_
      refine s_gI fl_2_93 rfl (by decide +kernel) (fun v5 => ?_)
      refine s_run (b := [(.goto 7, 3)]) 44 [some (.inr (.inr x0)), some (.inr (.inr x1)), none, some (.inl x3), some (.inl x4), some (.inl z2.1), none, none] [.inl v5] (by decide +kernel) rfl ?_
      exact s_lsub (ls' := [some (.inr (.inr x0)), some (.inr (.inr x1)), none, some (.inl x3), some (.inl x4), some (.inl z2.1), none, none]) ⟨rfl, ⟨rfl, ⟨rfl, ⟨rfl, ⟨rfl, trivial⟩⟩⟩⟩⟩ (J_X2_playDrawn_44 z2.2 x0 x1 x3 x4 z2.1 v5 K kk1 kk2_0)
set_option maxRecDepth 20000 in
theorem L_X2_playDrawn_13 {l : Launch} {G : Gv} {lim : Nat × Nat} (M : Mem) (x0 : Nat) (x1 : Nat) (x3 : Int32) (x4 : Int32) (K : ((Mem)) → Option (Option Value × Mem)) (kk2_0 : ∀ r : Mem, SimR l G Y_X2_playDrawn lim (K r) 104 [none, none, none, none, none, none, none, none] [] r) : Sim l G Y_X2_playDrawn lim (f_X2_playDrawn_L13 M x0 x1 x3 x4) K 13 [some (.inr (.inr x0)), some (.inr (.inr x1)), none, some (.inl x3), some (.inl x4), none, none, none] [] M :=
  s_iter (f := fun s : Int32 × Mem => f_X2_playDrawn_B13 s.2 x0 x1 x3 s.1) (hd := 13) (cl := fun s => [some (.inr (.inr x0)), some (.inr (.inr x1)), none, some (.inl x3), some (.inl s.1), none, none, none]) (cm := fun s => s.2) (xp := fun _ => 104) (xl := fun r => [none, none, none, none, none, none, none, none]) (xm := fun r => r) (fun s K h1 h2 => B_X2_playDrawn_13 s.2 x0 x1 x3 s.1 K (fun a4 a_ => h1 (a4, a_)) (fun a_ => h2 a_)) 1048576 (x4, M) K kk2_0
def f_X2_playDrawn (M : Mem) (x0 : Nat) (x1 : Nat) (x2 : Int32) (x3 : Int32) : Option (Mem) :=
  (ob M 2 x0).bind fun _ => (f_X2_begin M x0 x1).bind fun z1 =>
  (pI z1 2 x0 8 x2).bind fun M2 =>
  (f_X2_playDrawn_L13 M2 x0 x1 x3 (0 : Int32)).bind fun r3 =>
  some r3
set_option maxRecDepth 20000 in
theorem S_X2_playDrawn {l : Launch} {G : Gv} {lim : Nat × Nat} (M : Mem) (x0 : Nat) (x1 : Nat) (x2 : Int32) (x3 : Int32) : Sim l G Y_X2_playDrawn lim (f_X2_playDrawn M x0 x1 x2 x3) (fun z => some (none, z)) 0 [some (.inr (.inr x0)), some (.inr (.inr x1)), some (.inl x2), some (.inl x3), none, none, none, none] [] M := by
  unfold f_X2_playDrawn
  refine s_run (b := [(.aload_n 0, 1), (.aload_n 1, 1)]) 2 [some (.inr (.inr x0)), some (.inr (.inr x1)), some (.inl x2), some (.inl x3), none, none, none, none] [.inr (.inr x1), .inr (.inr x0)] (by decide +kernel) rfl ?_
  refine s_cV (Z := Y_X2_begin) (c := 2) (vs := [.inr (.inr x1)]) (st := []) (rO := fun _ => none) (mO := fun z => z) zk_X2_begin zi_X2_begin q760 rfl ⟨by decide, by decide⟩ ⟨rfl, rfl⟩ rfl rfl (Nat.le_of_ble_eq_true rfl) (by decide +kernel) (fun z hz => c_X2_begin hz) (fun z1 => ?_)
  change Sim l G Y_X2_playDrawn lim _ _ 5 [some (.inr (.inr x0)), some (.inr (.inr x1)), some (.inl x2), some (.inl x3), none, none, none, none] [] z1
  refine s_run (b := [(.aload_n 0, 1), (.iload_n 2, 1)]) 7 [some (.inr (.inr x0)), some (.inr (.inr x1)), some (.inl x2), some (.inl x3), none, none, none, none] [.inl x2, .inr (.inr x0)] (by decide +kernel) rfl ?_
  refine s_pI fl_2_86 (Or.inl rfl) rfl (by decide +kernel) (fun M2 => ?_)
  refine s_run (b := [(.iconst 0, 1), (.istore 4, 2)]) 13 [some (.inr (.inr x0)), some (.inr (.inr x1)), some (.inl x2), some (.inl x3), some (.inl (0 : Int32)), none, none, none] [] (by decide +kernel) rfl ?_
  refine s_lsub (ls' := [some (.inr (.inr x0)), some (.inr (.inr x1)), none, some (.inl x3), some (.inl (0 : Int32)), none, none, none]) ⟨rfl, ⟨rfl, ⟨rfl, ⟨rfl, trivial⟩⟩⟩⟩ ?_
  refine sim_bind (L_X2_playDrawn_13 M2 x0 x1 x3 (0 : Int32) _ (fun r3 => ?_))
  change Sim l G Y_X2_playDrawn lim _ _ 104 [none, none, none, none, none, none, none, none] [] r3
  exact s_vret (by decide +kernel) rfl
set_option maxRecDepth 20000 in
theorem c_X2_playDrawn {l : Launch} {G : Gv} {M : Mem} {x0 : Nat} {x1 : Nat} {x2 : Int32} {x3 : Int32} {z : Mem} (h : f_X2_playDrawn M x0 x1 x2 x3 = some z) : MetS l G Y_X2_playDrawn [.inr (.inr x0), .inr (.inr x1), .inl x2, .inl x3] M none z :=
  met_of (ls0 := [some (.inr (.inr x0)), some (.inr (.inr x1)), some (.inl x2), some (.inl x3), none, none, none, none]) (by decide) rfl (lv_in (m := 4) rfl) (sl_le (Nat.le_of_ble_eq_true rfl)) (by rw [h]; rfl) (Or.inl ⟨rfl, rfl⟩) (S_X2_playDrawn M x0 x1 x2 x3)
def f_X2_tellDesk (M : Mem) (x0 : Nat) (x1 : Int32) (x2 : Int32) : Option (Int32) :=
  (gR M 2 x0 3).bind fun v1 =>
  (ob M 5 v1).bind fun _ => (f_X5_hasDesk M v1 x2).bind fun v2 =>
  (if v2 = 0 then
    some (-2 : Int32)
  else
    (if x1 = (1 : Int32) then
      (gR M 2 x0 9).bind fun v5 =>
      (aI M 0 v5 x2).bind fun v6 =>
      some v6
    else
    (if x1 = (2 : Int32) then
      (gR M 2 x0 10).bind fun v8 =>
      (aI M 0 v8 x2).bind fun v9 =>
      some v9
    else
    (if x1 = (3 : Int32) then
      (gR M 2 x0 11).bind fun v11 =>
      (aI M 0 v11 x2).bind fun v12 =>
      some v12
    else
    some (-2 : Int32)))))
set_option maxRecDepth 20000 in
theorem S_X2_tellDesk {l : Launch} {G : Gv} {lim : Nat × Nat} (M : Mem) (x0 : Nat) (x1 : Int32) (x2 : Int32) : Sim l G Y_X2_tellDesk lim (f_X2_tellDesk M x0 x1 x2) (fun z => some (some (.int z), M)) 0 [some (.inr (.inr x0)), some (.inl x1), some (.inl x2)] [] M := by
  unfold f_X2_tellDesk
  refine s_run (b := [(.aload_n 0, 1)]) 1 [some (.inr (.inr x0)), some (.inl x1), some (.inl x2)] [.inr (.inr x0)] (by decide +kernel) rfl ?_
  refine s_gR fl_2_12 rfl (by decide +kernel) (fun v1 => ?_)
  refine s_run (b := [(.iload_n 2, 1)]) 5 [some (.inr (.inr x0)), some (.inl x1), some (.inl x2)] [.inl x2, .inr (.inr v1)] (by decide +kernel) rfl ?_
  refine s_cV (Z := Y_X5_hasDesk) (c := 5) (vs := [.inl x2]) (st := []) (rO := fun z => some (.inl z)) (mO := fun _ => M) zk_X5_hasDesk zi_X5_hasDesk q824 rfl ⟨by decide, by decide⟩ ⟨rfl, rfl⟩ rfl rfl (Nat.le_of_ble_eq_true rfl) (by decide +kernel) (fun z hz => c_X5_hasDesk hz) (fun v2 => ?_)
  change Sim l G Y_X2_tellDesk lim _ _ 8 [some (.inr (.inr x0)), some (.inl x1), some (.inl x2)] [.inl v2] M
  refine s_if_ne (tgt := 14) (off := 6) (by decide +kernel) (by decide) (fun h3 => ?_) (fun h3 => ?_)
  · skip
    refine s_run (b := [(.bipush (-2), 2)]) 13 [some (.inr (.inr x0)), some (.inl x1), some (.inl x2)] [.inl (-2 : Int32)] (by decide +kernel) rfl ?_
    exact s_iret (by decide +kernel) rfl
  · skip
    refine s_run (b := [(.iload_n 1, 1)]) 15 [some (.inr (.inr x0)), some (.inl x1), some (.inl x2)] [.inl x1] (by decide +kernel) rfl ?_
    refine s_ite (fun h4 => ?_) (fun h4 => ?_)
    · refine s_tabIn (off := 25) (tgt := 40) (dflt := 46) (lo := 1) (hi := 3) (offs := #[25, 32, 39]) (len := 25) (1 : Int32) (by decide +kernel) h4 rfl rfl rfl (by decide) ?_
      change Sim l G Y_X2_tellDesk lim _ _ 40 [some (.inr (.inr x0)), some (.inl x1), some (.inl x2)] [] M
      refine s_run (b := [(.aload_n 0, 1)]) 41 [some (.inr (.inr x0)), some (.inl x1), some (.inl x2)] [.inr (.inr x0)] (by decide +kernel) rfl ?_
      refine s_gR fl_2_18 rfl (by decide +kernel) (fun v5 => ?_)
      refine s_run (b := [(.iload_n 2, 1)]) 45 [some (.inr (.inr x0)), some (.inl x1), some (.inl x2)] [.inl x2, .inr (.inr v5)] (by decide +kernel) rfl ?_
      refine s_ia (by decide +kernel) (fun v6 => ?_)
      exact s_iret (by decide +kernel) rfl
    refine s_ite (fun h7 => ?_) (fun h7 => ?_)
    · refine s_tabIn (off := 32) (tgt := 47) (dflt := 46) (lo := 1) (hi := 3) (offs := #[25, 32, 39]) (len := 25) (2 : Int32) (by decide +kernel) h7 rfl rfl rfl (by decide) ?_
      change Sim l G Y_X2_tellDesk lim _ _ 47 [some (.inr (.inr x0)), some (.inl x1), some (.inl x2)] [] M
      refine s_run (b := [(.aload_n 0, 1)]) 48 [some (.inr (.inr x0)), some (.inl x1), some (.inl x2)] [.inr (.inr x0)] (by decide +kernel) rfl ?_
      refine s_gR fl_2_22 rfl (by decide +kernel) (fun v8 => ?_)
      refine s_run (b := [(.iload_n 2, 1)]) 52 [some (.inr (.inr x0)), some (.inl x1), some (.inl x2)] [.inl x2, .inr (.inr v8)] (by decide +kernel) rfl ?_
      refine s_ia (by decide +kernel) (fun v9 => ?_)
      exact s_iret (by decide +kernel) rfl
    refine s_ite (fun h10 => ?_) (fun h10 => ?_)
    · refine s_tabIn (off := 39) (tgt := 54) (dflt := 46) (lo := 1) (hi := 3) (offs := #[25, 32, 39]) (len := 25) (3 : Int32) (by decide +kernel) h10 rfl rfl rfl (by decide) ?_
      change Sim l G Y_X2_tellDesk lim _ _ 54 [some (.inr (.inr x0)), some (.inl x1), some (.inl x2)] [] M
      refine s_run (b := [(.aload_n 0, 1)]) 55 [some (.inr (.inr x0)), some (.inl x1), some (.inl x2)] [.inr (.inr x0)] (by decide +kernel) rfl ?_
      refine s_gR fl_2_25 rfl (by decide +kernel) (fun v11 => ?_)
      refine s_run (b := [(.iload_n 2, 1)]) 59 [some (.inr (.inr x0)), some (.inl x1), some (.inl x2)] [.inl x2, .inr (.inr v11)] (by decide +kernel) rfl ?_
      refine s_ia (by decide +kernel) (fun v12 => ?_)
      exact s_iret (by decide +kernel) rfl
    refine s_tabOut (tgt := 61) (dflt := 46) (lo := 1) (hi := 3) (offs := #[25, 32, 39]) (len := 25) (by decide +kernel) (tab_out (fun k hk => by rcases (show k = 0 ∨ k = 1 ∨ k = 2 by omega) with rfl | rfl | rfl <;> first | exact i32_ne h4 (by decide) | exact i32_ne h7 (by decide) | exact i32_ne h10 (by decide))) (by decide) ?_
    change Sim l G Y_X2_tellDesk lim _ _ 61 [some (.inr (.inr x0)), some (.inl x1), some (.inl x2)] [] M
    refine s_run (b := [(.bipush (-2), 2)]) 63 [some (.inr (.inr x0)), some (.inl x1), some (.inl x2)] [.inl (-2 : Int32)] (by decide +kernel) rfl ?_
    exact s_iret (by decide +kernel) rfl
set_option maxRecDepth 20000 in
theorem c_X2_tellDesk {l : Launch} {G : Gv} {M : Mem} {x0 : Nat} {x1 : Int32} {x2 : Int32} {z : Int32} (h : f_X2_tellDesk M x0 x1 x2 = some z) : MetS l G Y_X2_tellDesk [.inr (.inr x0), .inl x1, .inl x2] M (some (.int z)) M :=
  met_of (ls0 := [some (.inr (.inr x0)), some (.inl x1), some (.inl x2)]) (by decide) rfl (lv_in (m := 0) rfl) (sl_le (Nat.le_of_ble_eq_true rfl)) (by rw [h]; rfl) (Or.inl ⟨rfl, rfl⟩) (S_X2_tellDesk M x0 x1 x2)
def f_X2_tell (M : Mem) (x0 : Nat) (x1 : Int32) : Option (Int32) :=
  (if x1 = (0 : Int32) then
    (gI M 2 x0 4).bind fun v2 =>
    some v2
  else
  (if x1 = (1 : Int32) then
    (gI M 2 x0 0).bind fun v4 =>
    some v4
  else
  (if x1 = (2 : Int32) then
    (gI M 2 x0 5).bind fun v6 =>
    some v6
  else
  (if x1 = (3 : Int32) then
    (gI M 2 x0 6).bind fun v8 =>
    some v8
  else
  (if x1 = (4 : Int32) then
    (gI M 2 x0 1).bind fun v10 =>
    some v10
  else
  (if x1 = (5 : Int32) then
    (gI M 2 x0 2).bind fun v12 =>
    some v12
  else
  (if x1 = (6 : Int32) then
    (gI M 2 x0 7).bind fun v14 =>
    some v14
  else
  (if (10 : Int32) ≤ x1 then
    (dvI x1 (10 : Int32)).bind fun v16 =>
    (rmI x1 (10 : Int32)).bind fun v17 =>
    (ob M 2 x0).bind fun _ => (f_X2_tellDesk M x0 v16 v17).bind fun v18 =>
    some v18
  else
    some (-2 : Int32)))))))))
set_option maxRecDepth 20000 in
theorem S_X2_tell {l : Launch} {G : Gv} {lim : Nat × Nat} (M : Mem) (x0 : Nat) (x1 : Int32) : Sim l G Y_X2_tell lim (f_X2_tell M x0 x1) (fun z => some (some (.int z), M)) 0 [some (.inr (.inr x0)), some (.inl x1)] [] M := by
  unfold f_X2_tell
  refine s_run (b := [(.iload_n 1, 1)]) 1 [some (.inr (.inr x0)), some (.inl x1)] [.inl x1] (by decide +kernel) rfl ?_
  refine s_ite (fun h1 => ?_) (fun h1 => ?_)
  · refine s_tabIn (off := 43) (tgt := 44) (dflt := 78) (lo := 0) (hi := 6) (offs := #[43, 48, 53, 58, 63, 68, 73]) (len := 43) (0 : Int32) (by decide +kernel) h1 rfl rfl rfl (by decide) ?_
    change Sim l G Y_X2_tell lim _ _ 44 [some (.inr (.inr x0)), some (.inl x1)] [] M
    refine s_run (b := [(.aload_n 0, 1)]) 45 [some (.inr (.inr x0)), some (.inl x1)] [.inr (.inr x0)] (by decide +kernel) rfl ?_
    refine s_gI fl_2_39 rfl (by decide +kernel) (fun v2 => ?_)
    exact s_iret (by decide +kernel) rfl
  refine s_ite (fun h3 => ?_) (fun h3 => ?_)
  · refine s_tabIn (off := 48) (tgt := 49) (dflt := 78) (lo := 0) (hi := 6) (offs := #[43, 48, 53, 58, 63, 68, 73]) (len := 43) (1 : Int32) (by decide +kernel) h3 rfl rfl rfl (by decide) ?_
    change Sim l G Y_X2_tell lim _ _ 49 [some (.inr (.inr x0)), some (.inl x1)] [] M
    refine s_run (b := [(.aload_n 0, 1)]) 50 [some (.inr (.inr x0)), some (.inl x1)] [.inr (.inr x0)] (by decide +kernel) rfl ?_
    refine s_gI fl_2_43 rfl (by decide +kernel) (fun v4 => ?_)
    exact s_iret (by decide +kernel) rfl
  refine s_ite (fun h5 => ?_) (fun h5 => ?_)
  · refine s_tabIn (off := 53) (tgt := 54) (dflt := 78) (lo := 0) (hi := 6) (offs := #[43, 48, 53, 58, 63, 68, 73]) (len := 43) (2 : Int32) (by decide +kernel) h5 rfl rfl rfl (by decide) ?_
    change Sim l G Y_X2_tell lim _ _ 54 [some (.inr (.inr x0)), some (.inl x1)] [] M
    refine s_run (b := [(.aload_n 0, 1)]) 55 [some (.inr (.inr x0)), some (.inl x1)] [.inr (.inr x0)] (by decide +kernel) rfl ?_
    refine s_gI fl_2_46 rfl (by decide +kernel) (fun v6 => ?_)
    exact s_iret (by decide +kernel) rfl
  refine s_ite (fun h7 => ?_) (fun h7 => ?_)
  · refine s_tabIn (off := 58) (tgt := 59) (dflt := 78) (lo := 0) (hi := 6) (offs := #[43, 48, 53, 58, 63, 68, 73]) (len := 43) (3 : Int32) (by decide +kernel) h7 rfl rfl rfl (by decide) ?_
    change Sim l G Y_X2_tell lim _ _ 59 [some (.inr (.inr x0)), some (.inl x1)] [] M
    refine s_run (b := [(.aload_n 0, 1)]) 60 [some (.inr (.inr x0)), some (.inl x1)] [.inr (.inr x0)] (by decide +kernel) rfl ?_
    refine s_gI fl_2_49 rfl (by decide +kernel) (fun v8 => ?_)
    exact s_iret (by decide +kernel) rfl
  refine s_ite (fun h9 => ?_) (fun h9 => ?_)
  · refine s_tabIn (off := 63) (tgt := 64) (dflt := 78) (lo := 0) (hi := 6) (offs := #[43, 48, 53, 58, 63, 68, 73]) (len := 43) (4 : Int32) (by decide +kernel) h9 rfl rfl rfl (by decide) ?_
    change Sim l G Y_X2_tell lim _ _ 64 [some (.inr (.inr x0)), some (.inl x1)] [] M
    refine s_run (b := [(.aload_n 0, 1)]) 65 [some (.inr (.inr x0)), some (.inl x1)] [.inr (.inr x0)] (by decide +kernel) rfl ?_
    refine s_gI fl_2_52 rfl (by decide +kernel) (fun v10 => ?_)
    exact s_iret (by decide +kernel) rfl
  refine s_ite (fun h11 => ?_) (fun h11 => ?_)
  · refine s_tabIn (off := 68) (tgt := 69) (dflt := 78) (lo := 0) (hi := 6) (offs := #[43, 48, 53, 58, 63, 68, 73]) (len := 43) (5 : Int32) (by decide +kernel) h11 rfl rfl rfl (by decide) ?_
    change Sim l G Y_X2_tell lim _ _ 69 [some (.inr (.inr x0)), some (.inl x1)] [] M
    refine s_run (b := [(.aload_n 0, 1)]) 70 [some (.inr (.inr x0)), some (.inl x1)] [.inr (.inr x0)] (by decide +kernel) rfl ?_
    refine s_gI fl_2_55 rfl (by decide +kernel) (fun v12 => ?_)
    exact s_iret (by decide +kernel) rfl
  refine s_ite (fun h13 => ?_) (fun h13 => ?_)
  · refine s_tabIn (off := 73) (tgt := 74) (dflt := 78) (lo := 0) (hi := 6) (offs := #[43, 48, 53, 58, 63, 68, 73]) (len := 43) (6 : Int32) (by decide +kernel) h13 rfl rfl rfl (by decide) ?_
    change Sim l G Y_X2_tell lim _ _ 74 [some (.inr (.inr x0)), some (.inl x1)] [] M
    refine s_run (b := [(.aload_n 0, 1)]) 75 [some (.inr (.inr x0)), some (.inl x1)] [.inr (.inr x0)] (by decide +kernel) rfl ?_
    refine s_gI fl_2_58 rfl (by decide +kernel) (fun v14 => ?_)
    exact s_iret (by decide +kernel) rfl
  refine s_tabOut (tgt := 79) (dflt := 78) (lo := 0) (hi := 6) (offs := #[43, 48, 53, 58, 63, 68, 73]) (len := 43) (by decide +kernel) (tab_out (fun k hk => by rcases (show k = 0 ∨ k = 1 ∨ k = 2 ∨ k = 3 ∨ k = 4 ∨ k = 5 ∨ k = 6 by omega) with rfl | rfl | rfl | rfl | rfl | rfl | rfl <;> first | exact i32_ne h1 (by decide) | exact i32_ne h3 (by decide) | exact i32_ne h5 (by decide) | exact i32_ne h7 (by decide) | exact i32_ne h9 (by decide) | exact i32_ne h11 (by decide) | exact i32_ne h13 (by decide))) (by decide) ?_
  change Sim l G Y_X2_tell lim _ _ 79 [some (.inr (.inr x0)), some (.inl x1)] [] M
  refine s_run (b := [(.iload_n 1, 1), (.bipush 10, 2)]) 82 [some (.inr (.inr x0)), some (.inl x1)] [.inl (10 : Int32), .inl x1] (by decide +kernel) rfl ?_
  refine s_ic_ge (tgt := 90) (off := 8) (by decide +kernel) (by decide) (fun h15 => ?_) (fun h15 => ?_)
  · skip
    refine s_run (b := [(.aload_n 0, 1), (.iload_n 1, 1), (.bipush 10, 2)]) 94 [some (.inr (.inr x0)), some (.inl x1)] [.inl (10 : Int32), .inl x1, .inr (.inr x0)] (by decide +kernel) rfl ?_
    refine s_idiv (by decide +kernel) (fun v16 => ?_)
    refine s_run (b := [(.iload_n 1, 1), (.bipush 10, 2)]) 98 [some (.inr (.inr x0)), some (.inl x1)] [.inl (10 : Int32), .inl x1, .inl v16, .inr (.inr x0)] (by decide +kernel) rfl ?_
    refine s_irem (by decide +kernel) (fun v17 => ?_)
    refine s_cV (Z := Y_X2_tellDesk) (c := 2) (vs := [.inl v16, .inl v17]) (st := []) (rO := fun z => some (.inl z)) (mO := fun _ => M) zk_X2_tellDesk zi_X2_tellDesk q837 rfl ⟨by decide, by decide⟩ ⟨rfl, rfl⟩ rfl rfl (Nat.le_of_ble_eq_true rfl) (by decide +kernel) (fun z hz => c_X2_tellDesk hz) (fun v18 => ?_)
    change Sim l G Y_X2_tell lim _ _ 102 [some (.inr (.inr x0)), some (.inl x1)] [.inl v18] M
    exact s_iret (by decide +kernel) rfl
  · skip
    refine s_run (b := [(.bipush (-2), 2), (.goto 15, 3)]) 102 [some (.inr (.inr x0)), some (.inl x1)] [.inl (-2 : Int32)] (by decide +kernel) rfl ?_
    exact s_iret (by decide +kernel) rfl
set_option maxRecDepth 20000 in
theorem c_X2_tell {l : Launch} {G : Gv} {M : Mem} {x0 : Nat} {x1 : Int32} {z : Int32} (h : f_X2_tell M x0 x1 = some z) : MetS l G Y_X2_tell [.inr (.inr x0), .inl x1] M (some (.int z)) M :=
  met_of (ls0 := [some (.inr (.inr x0)), some (.inl x1)]) (by decide) rfl (lv_in (m := 0) rfl) (sl_le (Nat.le_of_ble_eq_true rfl)) (by rw [h]; rfl) (Or.inl ⟨rfl, rfl⟩) (S_X2_tell M x0 x1)
def f_X11_drawn (M : Mem) (x0 : Nat) (x1 : Int32) (x2 : Int32) (x3 : Int32) (x4 : Int32) : Option (Int32 × Mem) :=
  (gR M 11 x0 0).bind fun v1 =>
  (ob M 9 v1).bind fun _ => (f_X9_officeAt M v1 x1).bind fun v2 =>
  (if v2 = 0 then
    some ((-2 : Int32), M)
  else
    (if x3 < 0 then
      some ((-2 : Int32), M)
    else
      (if x3 ≤ (60 : Int32) then
        (gR M 11 x0 5).bind fun v6 =>
        (ob M 2 v6).bind fun _ => (f_X2_playDrawn M v6 v2 x2 x3).bind fun z7 =>
        (gR z7 11 x0 5).bind fun v8 =>
        (ob z7 2 v8).bind fun _ => (f_X2_tell z7 v8 x4).bind fun v9 =>
        some (v9, z7)
      else
        some ((-2 : Int32), M))))
set_option maxRecDepth 20000 in
theorem S_X11_drawn {l : Launch} {G : Gv} {lim : Nat × Nat} (M : Mem) (x0 : Nat) (x1 : Int32) (x2 : Int32) (x3 : Int32) (x4 : Int32) : Sim l G Y_X11_drawn lim (f_X11_drawn M x0 x1 x2 x3 x4) (fun z => some (some (.int z.1), z.2)) 0 [some (.inr (.inr x0)), some (.inl x1), some (.inl x2), some (.inl x3), some (.inl x4), none] [] M := by
  unfold f_X11_drawn
  refine s_run (b := [(.aload_n 0, 1)]) 1 [some (.inr (.inr x0)), some (.inl x1), some (.inl x2), some (.inl x3), some (.inl x4), none] [.inr (.inr x0)] (by decide +kernel) rfl ?_
  refine s_gR fl_11_10 rfl (by decide +kernel) (fun v1 => ?_)
  refine s_run (b := [(.iload_n 1, 1)]) 5 [some (.inr (.inr x0)), some (.inl x1), some (.inl x2), some (.inl x3), some (.inl x4), none] [.inl x1, .inr (.inr v1)] (by decide +kernel) rfl ?_
  refine s_cV (Z := Y_X9_officeAt) (c := 9) (vs := [.inl x1]) (st := []) (rO := fun z => some (.inr (.inr z))) (mO := fun _ => M) zk_X9_officeAt zi_X9_officeAt q716 rfl ⟨by decide, by decide⟩ ⟨rfl, rfl⟩ rfl rfl (Nat.le_of_ble_eq_true rfl) (by decide +kernel) (fun z hz => c_X9_officeAt hz) (fun v2 => ?_)
  change Sim l G Y_X11_drawn lim _ _ 8 [some (.inr (.inr x0)), some (.inl x1), some (.inl x2), some (.inl x3), some (.inl x4), none] [.inr (.inr v2)] M
  refine s_run (b := [(.astore 5, 2), (.aload 5, 2)]) 12 [some (.inr (.inr x0)), some (.inl x1), some (.inl x2), some (.inl x3), some (.inl x4), some (.inr (.inr v2))] [.inr (.inr v2)] (by decide +kernel) rfl ?_
  refine s_ifnull (tgt := 25) (off := 13) (by decide +kernel) (by decide) (fun h3 => ?_) (fun h3 => ?_)
  · skip
    refine s_run (b := [(.bipush (-2), 2)]) 27 [some (.inr (.inr x0)), some (.inl x1), some (.inl x2), some (.inl x3), some (.inl x4), some (.inr (.inr v2))] [.inl (-2 : Int32)] (by decide +kernel) rfl ?_
    exact s_iret (by decide +kernel) rfl
  · skip
    refine s_run (b := [(.iload_n 3, 1)]) 16 [some (.inr (.inr x0)), some (.inl x1), some (.inl x2), some (.inl x3), some (.inl x4), some (.inr (.inr v2))] [.inl x3] (by decide +kernel) rfl ?_
    refine s_if_lt (tgt := 25) (off := 9) (by decide +kernel) (by decide) (fun h4 => ?_) (fun h4 => ?_)
    · skip
      refine s_run (b := [(.bipush (-2), 2)]) 27 [some (.inr (.inr x0)), some (.inl x1), some (.inl x2), some (.inl x3), some (.inl x4), some (.inr (.inr v2))] [.inl (-2 : Int32)] (by decide +kernel) rfl ?_
      exact s_iret (by decide +kernel) rfl
    · skip
      refine s_run (b := [(.iload_n 3, 1), (.bipush 60, 2)]) 22 [some (.inr (.inr x0)), some (.inl x1), some (.inl x2), some (.inl x3), some (.inl x4), some (.inr (.inr v2))] [.inl (60 : Int32), .inl x3] (by decide +kernel) rfl ?_
      refine s_ic_le (tgt := 28) (off := 6) (by decide +kernel) (by decide) (fun h5 => ?_) (fun h5 => ?_)
      · skip
        refine s_run (b := [(.aload_n 0, 1)]) 29 [some (.inr (.inr x0)), some (.inl x1), some (.inl x2), some (.inl x3), some (.inl x4), some (.inr (.inr v2))] [.inr (.inr x0)] (by decide +kernel) rfl ?_
        refine s_gR fl_11_41 rfl (by decide +kernel) (fun v6 => ?_)
        refine s_run (b := [(.aload 5, 2), (.iload_n 2, 1), (.iload_n 3, 1)]) 36 [some (.inr (.inr x0)), some (.inl x1), some (.inl x2), some (.inl x3), some (.inl x4), some (.inr (.inr v2))] [.inl x3, .inl x2, .inr (.inr v2), .inr (.inr v6)] (by decide +kernel) rfl ?_
        refine s_cV (Z := Y_X2_playDrawn) (c := 2) (vs := [.inr (.inr v2), .inl x2, .inl x3]) (st := []) (rO := fun _ => none) (mO := fun z => z) zk_X2_playDrawn zi_X2_playDrawn q1044 rfl ⟨by decide, by decide⟩ ⟨rfl, rfl⟩ rfl rfl (Nat.le_of_ble_eq_true rfl) (by decide +kernel) (fun z hz => c_X2_playDrawn hz) (fun z7 => ?_)
        change Sim l G Y_X11_drawn lim _ _ 39 [some (.inr (.inr x0)), some (.inl x1), some (.inl x2), some (.inl x3), some (.inl x4), some (.inr (.inr v2))] [] z7
        refine s_run (b := [(.aload_n 0, 1)]) 40 [some (.inr (.inr x0)), some (.inl x1), some (.inl x2), some (.inl x3), some (.inl x4), some (.inr (.inr v2))] [.inr (.inr x0)] (by decide +kernel) rfl ?_
        refine s_gR fl_11_41 rfl (by decide +kernel) (fun v8 => ?_)
        refine s_run (b := [(.iload 4, 2)]) 45 [some (.inr (.inr x0)), some (.inl x1), some (.inl x2), some (.inl x3), some (.inl x4), some (.inr (.inr v2))] [.inl x4, .inr (.inr v8)] (by decide +kernel) rfl ?_
        refine s_cV (Z := Y_X2_tell) (c := 2) (vs := [.inl x4]) (st := []) (rO := fun z => some (.inl z)) (mO := fun _ => z7) zk_X2_tell zi_X2_tell q833 rfl ⟨by decide, by decide⟩ ⟨rfl, rfl⟩ rfl rfl (Nat.le_of_ble_eq_true rfl) (by decide +kernel) (fun z hz => c_X2_tell hz) (fun v9 => ?_)
        change Sim l G Y_X11_drawn lim _ _ 48 [some (.inr (.inr x0)), some (.inl x1), some (.inl x2), some (.inl x3), some (.inl x4), some (.inr (.inr v2))] [.inl v9] z7
        exact s_iret (by decide +kernel) rfl
      · skip
        refine s_run (b := [(.bipush (-2), 2)]) 27 [some (.inr (.inr x0)), some (.inl x1), some (.inl x2), some (.inl x3), some (.inl x4), some (.inr (.inr v2))] [.inl (-2 : Int32)] (by decide +kernel) rfl ?_
        exact s_iret (by decide +kernel) rfl
set_option maxRecDepth 20000 in
theorem c_X11_drawn {l : Launch} {G : Gv} {M : Mem} {x0 : Nat} {x1 : Int32} {x2 : Int32} {x3 : Int32} {x4 : Int32} {z : Int32 × Mem} (h : f_X11_drawn M x0 x1 x2 x3 x4 = some z) : MetS l G Y_X11_drawn [.inr (.inr x0), .inl x1, .inl x2, .inl x3, .inl x4] M (some (.int z.1)) z.2 :=
  met_of (ls0 := [some (.inr (.inr x0)), some (.inl x1), some (.inl x2), some (.inl x3), some (.inl x4), none]) (by decide) rfl (lv_in (m := 1) rfl) (sl_le (Nat.le_of_ble_eq_true rfl)) (by rw [h]; rfl) (Or.inl ⟨rfl, rfl⟩) (S_X11_drawn M x0 x1 x2 x3 x4)
def f_X6_cheapest_J34 (M : Mem) (x0 : Nat) (x1 : Nat) (x2 : Int32) (x3 : Int32) (x4 : Int32) (x5 : Int32) (y0 : Int32) : Option ((Int32 × Int32) ⊕ ((Int32))) :=
  (if y0 = 0 then
    some (.inl (x4, (x5 + (1 : Int32))))
  else
    (if x4 = (-1 : Int32) then
      some (.inl (x5, (x5 + (1 : Int32))))
    else
      (gR M 6 x0 7).bind fun v3 =>
      (aI M 0 v3 ((x2 * (8 : Int32)) + x5)).bind fun v4 =>
      (gR M 6 x0 7).bind fun v5 =>
      (aI M 0 v5 ((x2 * (8 : Int32)) + x4)).bind fun v6 =>
      (if v6 ≤ v4 then
        some (.inl (x4, (x5 + (1 : Int32))))
      else
        some (.inl (x5, (x5 + (1 : Int32)))))))
set_option maxRecDepth 20000 in
theorem J_X6_cheapest_34 {l : Launch} {G : Gv} {lim : Nat × Nat} (M : Mem) (x0 : Nat) (x1 : Nat) (x2 : Int32) (x3 : Int32) (x4 : Int32) (x5 : Int32) (y0 : Int32) (K : (Int32 × Int32) ⊕ ((Int32)) → Option (Option Value × Mem)) (kk1 : ∀ (s4 : Int32) (s5 : Int32), SimR l G Y_X6_cheapest lim (K (.inl (s4, s5))) 6 [some (.inr (.inr x0)), some (.inr (.inr x1)), some (.inl x2), some (.inl x3), some (.inl s4), some (.inl s5), none] [] M) (kk2_0 : ∀ (s4 : Int32), SimR l G Y_X6_cheapest lim (K (.inr s4)) 84 [none, none, none, none, some (.inl s4), none, none] [] M) : Sim l G Y_X6_cheapest lim (f_X6_cheapest_J34 M x0 x1 x2 x3 x4 x5 y0) K 34 [some (.inr (.inr x0)), some (.inr (.inr x1)), some (.inl x2), some (.inl x3), some (.inl x4), some (.inl x5), none] [.inl y0] M := by
  unfold f_X6_cheapest_J34
  refine s_run (b := [(.istore 6, 2), (.iload 6, 2)]) 38 [some (.inr (.inr x0)), some (.inr (.inr x1)), some (.inl x2), some (.inl x3), some (.inl x4), some (.inl x5), some (.inl y0)] [.inl y0] (by decide +kernel) rfl ?_
  refine s_if_eq (tgt := 78) (off := 40) (by decide +kernel) (by decide) (fun h1 => ?_) (fun h1 => ?_)
  · skip
    refine s_run (b := [(.iinc 5 1, 3), (.goto (-75), 3)]) 6 [some (.inr (.inr x0)), some (.inr (.inr x1)), some (.inl x2), some (.inl x3), some (.inl x4), some (.inl (x5 + (1 : Int32))), some (.inl y0)] [] (by decide +kernel) rfl ?_
    exact s_lsub (ls' := [some (.inr (.inr x0)), some (.inr (.inr x1)), some (.inl x2), some (.inl x3), some (.inl x4), some (.inl (x5 + (1 : Int32))), none]) ⟨rfl, ⟨rfl, ⟨rfl, ⟨rfl, ⟨rfl, ⟨rfl, trivial⟩⟩⟩⟩⟩⟩ (kk1 x4 (x5 + (1 : Int32)))
  · skip
    refine s_run (b := [(.iload 4, 2), (.iconst (-1), 1)]) 44 [some (.inr (.inr x0)), some (.inr (.inr x1)), some (.inl x2), some (.inl x3), some (.inl x4), some (.inl x5), some (.inl y0)] [.inl (-1 : Int32), .inl x4] (by decide +kernel) rfl ?_
    refine s_ic_eq (tgt := 74) (off := 30) (by decide +kernel) (by decide) (fun h2 => ?_) (fun h2 => ?_)
    · skip
      refine s_run (b := [(.iload 5, 2), (.istore 4, 2), (.iinc 5 1, 3), (.goto (-75), 3)]) 6 [some (.inr (.inr x0)), some (.inr (.inr x1)), some (.inl x2), some (.inl x3), some (.inl x5), some (.inl (x5 + (1 : Int32))), some (.inl y0)] [] (by decide +kernel) rfl ?_
      exact s_lsub (ls' := [some (.inr (.inr x0)), some (.inr (.inr x1)), some (.inl x2), some (.inl x3), some (.inl x5), some (.inl (x5 + (1 : Int32))), none]) ⟨rfl, ⟨rfl, ⟨rfl, ⟨rfl, ⟨rfl, ⟨rfl, trivial⟩⟩⟩⟩⟩⟩ (kk1 x5 (x5 + (1 : Int32)))
    · skip
      refine s_run (b := [(.aload_n 0, 1)]) 48 [some (.inr (.inr x0)), some (.inr (.inr x1)), some (.inl x2), some (.inl x3), some (.inl x4), some (.inl x5), some (.inl y0)] [.inr (.inr x0)] (by decide +kernel) rfl ?_
      refine s_gR fl_6_35 rfl (by decide +kernel) (fun v3 => ?_)
      refine s_run (b := [(.iload_n 2, 1), (.bipush 8, 2), (.imul, 1), (.iload 5, 2), (.iadd, 1)]) 58 [some (.inr (.inr x0)), some (.inr (.inr x1)), some (.inl x2), some (.inl x3), some (.inl x4), some (.inl x5), some (.inl y0)] [.inl ((x2 * (8 : Int32)) + x5), .inr (.inr v3)] (by decide +kernel) rfl ?_
      refine s_ia (by decide +kernel) (fun v4 => ?_)
      refine s_run (b := [(.aload_n 0, 1)]) 60 [some (.inr (.inr x0)), some (.inr (.inr x1)), some (.inl x2), some (.inl x3), some (.inl x4), some (.inl x5), some (.inl y0)] [.inr (.inr x0), .inl v4] (by decide +kernel) rfl ?_
      refine s_gR fl_6_35 rfl (by decide +kernel) (fun v5 => ?_)
      refine s_run (b := [(.iload_n 2, 1), (.bipush 8, 2), (.imul, 1), (.iload 4, 2), (.iadd, 1)]) 70 [some (.inr (.inr x0)), some (.inr (.inr x1)), some (.inl x2), some (.inl x3), some (.inl x4), some (.inl x5), some (.inl y0)] [.inl ((x2 * (8 : Int32)) + x4), .inr (.inr v5), .inl v4] (by decide +kernel) rfl ?_
      refine s_ia (by decide +kernel) (fun v6 => ?_)
      refine s_ic_ge (tgt := 78) (off := 7) (by decide +kernel) (by decide) (fun h7 => ?_) (fun h7 => ?_)
      · skip
        refine s_run (b := [(.iinc 5 1, 3), (.goto (-75), 3)]) 6 [some (.inr (.inr x0)), some (.inr (.inr x1)), some (.inl x2), some (.inl x3), some (.inl x4), some (.inl (x5 + (1 : Int32))), some (.inl y0)] [] (by decide +kernel) rfl ?_
        exact s_lsub (ls' := [some (.inr (.inr x0)), some (.inr (.inr x1)), some (.inl x2), some (.inl x3), some (.inl x4), some (.inl (x5 + (1 : Int32))), none]) ⟨rfl, ⟨rfl, ⟨rfl, ⟨rfl, ⟨rfl, ⟨rfl, trivial⟩⟩⟩⟩⟩⟩ (kk1 x4 (x5 + (1 : Int32)))
      · skip
        refine s_run (b := [(.iload 5, 2), (.istore 4, 2), (.iinc 5 1, 3), (.goto (-75), 3)]) 6 [some (.inr (.inr x0)), some (.inr (.inr x1)), some (.inl x2), some (.inl x3), some (.inl x5), some (.inl (x5 + (1 : Int32))), some (.inl y0)] [] (by decide +kernel) rfl ?_
        exact s_lsub (ls' := [some (.inr (.inr x0)), some (.inr (.inr x1)), some (.inl x2), some (.inl x3), some (.inl x5), some (.inl (x5 + (1 : Int32))), none]) ⟨rfl, ⟨rfl, ⟨rfl, ⟨rfl, ⟨rfl, ⟨rfl, trivial⟩⟩⟩⟩⟩⟩ (kk1 x5 (x5 + (1 : Int32)))
def f_X6_cheapest_B6 (M : Mem) (x0 : Nat) (x1 : Nat) (x2 : Int32) (x3 : Int32) (x4 : Int32) (x5 : Int32) : Option ((Int32 × Int32) ⊕ ((Int32))) :=
  (gI M 5 x1 0).bind fun v1 =>
  (if v1 ≤ x5 then
    some (.inr x4)
  else
    (if x5 = x3 then
      (gI M 5 x1 0).bind fun v4 =>
      (if v4 = (1 : Int32) then
        f_X6_cheapest_J34 M x0 x1 x2 x3 x4 x5 (1 : Int32)
      else
        f_X6_cheapest_J34 M x0 x1 x2 x3 x4 x5 (0 : Int32))
    else
      f_X6_cheapest_J34 M x0 x1 x2 x3 x4 x5 (1 : Int32)))
def f_X6_cheapest_L6 (M : Mem) (x0 : Nat) (x1 : Nat) (x2 : Int32) (x3 : Int32) (x4 : Int32) (x5 : Int32) : Option ((Int32)) := iter (fun s : Int32 × Int32 => f_X6_cheapest_B6 M x0 x1 x2 x3 s.1 s.2) 1048576 (x4, x5)
set_option maxRecDepth 20000 in
theorem B_X6_cheapest_6 {l : Launch} {G : Gv} {lim : Nat × Nat} (M : Mem) (x0 : Nat) (x1 : Nat) (x2 : Int32) (x3 : Int32) (x4 : Int32) (x5 : Int32) (K : (Int32 × Int32) ⊕ ((Int32)) → Option (Option Value × Mem)) (kk1 : ∀ (s4 : Int32) (s5 : Int32), SimR l G Y_X6_cheapest lim (K (.inl (s4, s5))) 6 [some (.inr (.inr x0)), some (.inr (.inr x1)), some (.inl x2), some (.inl x3), some (.inl s4), some (.inl s5), none] [] M) (kk2_0 : ∀ (s4 : Int32), SimR l G Y_X6_cheapest lim (K (.inr s4)) 84 [none, none, none, none, some (.inl s4), none, none] [] M) : Sim l G Y_X6_cheapest lim (f_X6_cheapest_B6 M x0 x1 x2 x3 x4 x5) K 6 [some (.inr (.inr x0)), some (.inr (.inr x1)), some (.inl x2), some (.inl x3), some (.inl x4), some (.inl x5), none] [] M := by
  unfold f_X6_cheapest_B6
  refine s_run (b := [(.iload 5, 2), (.aload_n 1, 1)]) 9 [some (.inr (.inr x0)), some (.inr (.inr x1)), some (.inl x2), some (.inl x3), some (.inl x4), some (.inl x5), none] [.inr (.inr x1), .inl x5] (by decide +kernel) rfl ?_
  refine s_gI fl_6_54 rfl (by decide +kernel) (fun v1 => ?_)
  refine s_ic_ge (tgt := 84) (off := 72) (by decide +kernel) (by decide) (fun h2 => ?_) (fun h2 => ?_)
  · skip
    exact s_lsub (ls' := [none, none, none, none, some (.inl x4), none, none]) ⟨rfl, trivial⟩ (kk2_0 x4)
  · skip
    refine s_run (b := [(.iload 5, 2), (.iload_n 3, 1)]) 18 [some (.inr (.inr x0)), some (.inr (.inr x1)), some (.inl x2), some (.inl x3), some (.inl x4), some (.inl x5), none] [.inl x3, .inl x5] (by decide +kernel) rfl ?_
    refine s_ic_ne (tgt := 29) (off := 11) (by decide +kernel) (by decide) (fun h3 => ?_) (fun h3 => ?_)
    · skip
      refine s_run (b := [(.aload_n 1, 1)]) 22 [some (.inr (.inr x0)), some (.inr (.inr x1)), some (.inl x2), some (.inl x3), some (.inl x4), some (.inl x5), none] [.inr (.inr x1)] (by decide +kernel) rfl ?_
      refine s_gI fl_6_54 rfl (by decide +kernel) (fun v4 => ?_)
      refine s_run (b := [(.iconst 1, 1)]) 26 [some (.inr (.inr x0)), some (.inr (.inr x1)), some (.inl x2), some (.inl x3), some (.inl x4), some (.inl x5), none] [.inl (1 : Int32), .inl v4] (by decide +kernel) rfl ?_
      refine s_ic_ne (tgt := 33) (off := 7) (by decide +kernel) (by decide) (fun h5 => ?_) (fun h5 => ?_)
      · skip
        refine s_run (b := [(.iconst 1, 1), (.goto 4, 3)]) 34 [some (.inr (.inr x0)), some (.inr (.inr x1)), some (.inl x2), some (.inl x3), some (.inl x4), some (.inl x5), none] [.inl (1 : Int32)] (by decide +kernel) rfl ?_
        exact s_lsub (ls' := [some (.inr (.inr x0)), some (.inr (.inr x1)), some (.inl x2), some (.inl x3), some (.inl x4), some (.inl x5), none]) ⟨rfl, ⟨rfl, ⟨rfl, ⟨rfl, ⟨rfl, ⟨rfl, trivial⟩⟩⟩⟩⟩⟩ (J_X6_cheapest_34 M x0 x1 x2 x3 x4 x5 (1 : Int32) K kk1 kk2_0)
      · skip
        refine s_run (b := [(.iconst 0, 1)]) 34 [some (.inr (.inr x0)), some (.inr (.inr x1)), some (.inl x2), some (.inl x3), some (.inl x4), some (.inl x5), none] [.inl (0 : Int32)] (by decide +kernel) rfl ?_
        exact s_lsub (ls' := [some (.inr (.inr x0)), some (.inr (.inr x1)), some (.inl x2), some (.inl x3), some (.inl x4), some (.inl x5), none]) ⟨rfl, ⟨rfl, ⟨rfl, ⟨rfl, ⟨rfl, ⟨rfl, trivial⟩⟩⟩⟩⟩⟩ (J_X6_cheapest_34 M x0 x1 x2 x3 x4 x5 (0 : Int32) K kk1 kk2_0)
    · skip
      refine s_run (b := [(.iconst 1, 1), (.goto 4, 3)]) 34 [some (.inr (.inr x0)), some (.inr (.inr x1)), some (.inl x2), some (.inl x3), some (.inl x4), some (.inl x5), none] [.inl (1 : Int32)] (by decide +kernel) rfl ?_
      exact s_lsub (ls' := [some (.inr (.inr x0)), some (.inr (.inr x1)), some (.inl x2), some (.inl x3), some (.inl x4), some (.inl x5), none]) ⟨rfl, ⟨rfl, ⟨rfl, ⟨rfl, ⟨rfl, ⟨rfl, trivial⟩⟩⟩⟩⟩⟩ (J_X6_cheapest_34 M x0 x1 x2 x3 x4 x5 (1 : Int32) K kk1 kk2_0)
set_option maxRecDepth 20000 in
theorem L_X6_cheapest_6 {l : Launch} {G : Gv} {lim : Nat × Nat} (M : Mem) (x0 : Nat) (x1 : Nat) (x2 : Int32) (x3 : Int32) (x4 : Int32) (x5 : Int32) (K : ((Int32)) → Option (Option Value × Mem)) (kk2_0 : ∀ r : Int32, SimR l G Y_X6_cheapest lim (K r) 84 [none, none, none, none, some (.inl r), none, none] [] M) : Sim l G Y_X6_cheapest lim (f_X6_cheapest_L6 M x0 x1 x2 x3 x4 x5) K 6 [some (.inr (.inr x0)), some (.inr (.inr x1)), some (.inl x2), some (.inl x3), some (.inl x4), some (.inl x5), none] [] M :=
  s_iter (f := fun s : Int32 × Int32 => f_X6_cheapest_B6 M x0 x1 x2 x3 s.1 s.2) (hd := 6) (cl := fun s => [some (.inr (.inr x0)), some (.inr (.inr x1)), some (.inl x2), some (.inl x3), some (.inl s.1), some (.inl s.2), none]) (cm := fun s => M) (xp := fun _ => 84) (xl := fun r => [none, none, none, none, some (.inl r), none, none]) (xm := fun r => M) (fun s K h1 h2 => B_X6_cheapest_6 M x0 x1 x2 x3 s.1 s.2 K (fun a4 a5 => h1 (a4, a5)) (fun a4 => h2 a4)) 1048576 (x4, x5) K kk2_0
def f_X6_cheapest (M : Mem) (x0 : Nat) (x1 : Nat) (x2 : Int32) (x3 : Int32) : Option (Int32) :=
  (f_X6_cheapest_L6 M x0 x1 x2 x3 (-1 : Int32) (0 : Int32)).bind fun r1 =>
  (if r1 = (-1 : Int32) then
    some (0 : Int32)
  else
    some r1)
set_option maxRecDepth 20000 in
theorem S_X6_cheapest {l : Launch} {G : Gv} {lim : Nat × Nat} (M : Mem) (x0 : Nat) (x1 : Nat) (x2 : Int32) (x3 : Int32) : Sim l G Y_X6_cheapest lim (f_X6_cheapest M x0 x1 x2 x3) (fun z => some (some (.int z), M)) 0 [some (.inr (.inr x0)), some (.inr (.inr x1)), some (.inl x2), some (.inl x3), none, none, none] [] M := by
  unfold f_X6_cheapest
  refine s_run (b := [(.iconst (-1), 1), (.istore 4, 2), (.iconst 0, 1), (.istore 5, 2)]) 6 [some (.inr (.inr x0)), some (.inr (.inr x1)), some (.inl x2), some (.inl x3), some (.inl (-1 : Int32)), some (.inl (0 : Int32)), none] [] (by decide +kernel) rfl ?_
  refine s_lsub (ls' := [some (.inr (.inr x0)), some (.inr (.inr x1)), some (.inl x2), some (.inl x3), some (.inl (-1 : Int32)), some (.inl (0 : Int32)), none]) ⟨rfl, ⟨rfl, ⟨rfl, ⟨rfl, ⟨rfl, ⟨rfl, trivial⟩⟩⟩⟩⟩⟩ ?_
  refine sim_bind (L_X6_cheapest_6 M x0 x1 x2 x3 (-1 : Int32) (0 : Int32) _ (fun r1 => ?_))
  change Sim l G Y_X6_cheapest lim _ _ 84 [none, none, none, none, some (.inl r1), none, none] [] M
  refine s_run (b := [(.iload 4, 2), (.iconst (-1), 1)]) 87 [none, none, none, none, some (.inl r1), none, none] [.inl (-1 : Int32), .inl r1] (by decide +kernel) rfl ?_
  refine s_ic_ne (tgt := 94) (off := 7) (by decide +kernel) (by decide) (fun h2 => ?_) (fun h2 => ?_)
  · skip
    refine s_run (b := [(.iconst 0, 1), (.goto 5, 3)]) 96 [none, none, none, none, some (.inl r1), none, none] [.inl (0 : Int32)] (by decide +kernel) rfl ?_
    exact s_iret (by decide +kernel) rfl
  · skip
    refine s_run (b := [(.iload 4, 2)]) 96 [none, none, none, none, some (.inl r1), none, none] [.inl r1] (by decide +kernel) rfl ?_
    exact s_iret (by decide +kernel) rfl
set_option maxRecDepth 20000 in
theorem c_X6_cheapest {l : Launch} {G : Gv} {M : Mem} {x0 : Nat} {x1 : Nat} {x2 : Int32} {x3 : Int32} {z : Int32} (h : f_X6_cheapest M x0 x1 x2 x3 = some z) : MetS l G Y_X6_cheapest [.inr (.inr x0), .inr (.inr x1), .inl x2, .inl x3] M (some (.int z)) M :=
  met_of (ls0 := [some (.inr (.inr x0)), some (.inr (.inr x1)), some (.inl x2), some (.inl x3), none, none, none]) (by decide) rfl (lv_in (m := 3) rfl) (sl_le (Nat.le_of_ble_eq_true rfl)) (by rw [h]; rfl) (Or.inl ⟨rfl, rfl⟩) (S_X6_cheapest M x0 x1 x2 x3)
def f_X6_planDuty_B2 (M : Mem) (x0 : Nat) (x1 : Nat) (x2 : Int32) (x3 : Int32) : Option ((Int32 × Mem) ⊕ ((Mem))) :=
  (gI M 5 x1 0).bind fun v1 =>
  (if v1 ≤ x3 then
    some (.inr M)
  else
    (gR M 6 x0 7).bind fun v3 =>
    (sI M 0 v3 ((x2 * (8 : Int32)) + x3) (0 : Int32)).bind fun M4 =>
    some (.inl ((x3 + (1 : Int32)), M4)))
def f_X6_planDuty_L2 (M : Mem) (x0 : Nat) (x1 : Nat) (x2 : Int32) (x3 : Int32) : Option ((Mem)) := iter (fun s : Int32 × Mem => f_X6_planDuty_B2 s.2 x0 x1 x2 s.1) 1048576 (x3, M)
set_option maxRecDepth 20000 in
theorem B_X6_planDuty_2 {l : Launch} {G : Gv} {lim : Nat × Nat} (M : Mem) (x0 : Nat) (x1 : Nat) (x2 : Int32) (x3 : Int32) (K : (Int32 × Mem) ⊕ ((Mem)) → Option (Option Value × Mem)) (kk1 : ∀ (s3 : Int32) (s_ : Mem), SimR l G Y_X6_planDuty lim (K (.inl (s3, s_))) 2 [some (.inr (.inr x0)), some (.inr (.inr x1)), some (.inl x2), some (.inl s3), none, none] [] s_) (kk2_0 : ∀ (s_ : Mem), SimR l G Y_X6_planDuty lim (K (.inr s_)) 28 [some (.inr (.inr x0)), some (.inr (.inr x1)), some (.inl x2), none, none, none] [] s_) : Sim l G Y_X6_planDuty lim (f_X6_planDuty_B2 M x0 x1 x2 x3) K 2 [some (.inr (.inr x0)), some (.inr (.inr x1)), some (.inl x2), some (.inl x3), none, none] [] M := by
  unfold f_X6_planDuty_B2
  refine s_run (b := [(.iload_n 3, 1), (.aload_n 1, 1)]) 4 [some (.inr (.inr x0)), some (.inr (.inr x1)), some (.inl x2), some (.inl x3), none, none] [.inr (.inr x1), .inl x3] (by decide +kernel) rfl ?_
  refine s_gI fl_6_54 rfl (by decide +kernel) (fun v1 => ?_)
  refine s_ic_ge (tgt := 28) (off := 21) (by decide +kernel) (by decide) (fun h2 => ?_) (fun h2 => ?_)
  · skip
    exact s_lsub (ls' := [some (.inr (.inr x0)), some (.inr (.inr x1)), some (.inl x2), none, none, none]) ⟨rfl, ⟨rfl, ⟨rfl, trivial⟩⟩⟩ (kk2_0 M)
  · skip
    refine s_run (b := [(.aload_n 0, 1)]) 11 [some (.inr (.inr x0)), some (.inr (.inr x1)), some (.inl x2), some (.inl x3), none, none] [.inr (.inr x0)] (by decide +kernel) rfl ?_
    refine s_gR fl_6_35 rfl (by decide +kernel) (fun v3 => ?_)
    refine s_run (b := [(.iload_n 2, 1), (.bipush 8, 2), (.imul, 1), (.iload_n 3, 1), (.iadd, 1), (.iconst 0, 1)]) 21 [some (.inr (.inr x0)), some (.inr (.inr x1)), some (.inl x2), some (.inl x3), none, none] [.inl (0 : Int32), .inl ((x2 * (8 : Int32)) + x3), .inr (.inr v3)] (by decide +kernel) rfl ?_
    refine s_is (by decide +kernel) (fun M4 => ?_)
    refine s_run (b := [(.iinc 3 1, 3), (.goto (-23), 3)]) 2 [some (.inr (.inr x0)), some (.inr (.inr x1)), some (.inl x2), some (.inl (x3 + (1 : Int32))), none, none] [] (by decide +kernel) rfl ?_
    exact s_lsub (ls' := [some (.inr (.inr x0)), some (.inr (.inr x1)), some (.inl x2), some (.inl (x3 + (1 : Int32))), none, none]) ⟨rfl, ⟨rfl, ⟨rfl, ⟨rfl, trivial⟩⟩⟩⟩ (kk1 (x3 + (1 : Int32)) M4)
set_option maxRecDepth 20000 in
theorem L_X6_planDuty_2 {l : Launch} {G : Gv} {lim : Nat × Nat} (M : Mem) (x0 : Nat) (x1 : Nat) (x2 : Int32) (x3 : Int32) (K : ((Mem)) → Option (Option Value × Mem)) (kk2_0 : ∀ r : Mem, SimR l G Y_X6_planDuty lim (K r) 28 [some (.inr (.inr x0)), some (.inr (.inr x1)), some (.inl x2), none, none, none] [] r) : Sim l G Y_X6_planDuty lim (f_X6_planDuty_L2 M x0 x1 x2 x3) K 2 [some (.inr (.inr x0)), some (.inr (.inr x1)), some (.inl x2), some (.inl x3), none, none] [] M :=
  s_iter (f := fun s : Int32 × Mem => f_X6_planDuty_B2 s.2 x0 x1 x2 s.1) (hd := 2) (cl := fun s => [some (.inr (.inr x0)), some (.inr (.inr x1)), some (.inl x2), some (.inl s.1), none, none]) (cm := fun s => s.2) (xp := fun _ => 28) (xl := fun r => [some (.inr (.inr x0)), some (.inr (.inr x1)), some (.inl x2), none, none, none]) (xm := fun r => r) (fun s K h1 h2 => B_X6_planDuty_2 s.2 x0 x1 x2 s.1 K (fun a3 a_ => h1 (a3, a_)) (fun a_ => h2 a_)) 1048576 (x3, M) K kk2_0
def f_X6_planDuty_B39 (M : Mem) (x0 : Nat) (x1 : Nat) (x2 : Int32) (x3 : Int32) (x4 : Int32) : Option ((Int32 × Mem) ⊕ ((Mem))) :=
  (gI M 5 x1 0).bind fun v1 =>
  (if v1 ≤ x4 then
    some (.inr M)
  else
    (ob M 6 x0).bind fun _ => (f_X6_cheapest M x0 x1 (x3 + (1 : Int32)) x4).bind fun v3 =>
    (gR M 6 x0 7).bind fun v4 =>
    (gR M 5 x1 8).bind fun v5 =>
    (aI M 0 v5 x4).bind fun v6 =>
    (gR M 6 x0 7).bind fun v7 =>
    (aI M 0 v7 (((x3 + (1 : Int32)) * (8 : Int32)) + v3)).bind fun v8 =>
    (sI M 0 v4 ((x3 * (8 : Int32)) + x4) (v6 + v8)).bind fun M9 =>
    some (.inl ((x4 + (1 : Int32)), M9)))
def f_X6_planDuty_L39 (M : Mem) (x0 : Nat) (x1 : Nat) (x2 : Int32) (x3 : Int32) (x4 : Int32) : Option ((Mem)) := iter (fun s : Int32 × Mem => f_X6_planDuty_B39 s.2 x0 x1 x2 x3 s.1) 1048576 (x4, M)
set_option maxRecDepth 20000 in
theorem B_X6_planDuty_39 {l : Launch} {G : Gv} {lim : Nat × Nat} (M : Mem) (x0 : Nat) (x1 : Nat) (x2 : Int32) (x3 : Int32) (x4 : Int32) (K : (Int32 × Mem) ⊕ ((Mem)) → Option (Option Value × Mem)) (kk1 : ∀ (s4 : Int32) (s_ : Mem), SimR l G Y_X6_planDuty lim (K (.inl (s4, s_))) 39 [some (.inr (.inr x0)), some (.inr (.inr x1)), some (.inl x2), some (.inl x3), some (.inl s4), none] [] s_) (kk2_0 : ∀ (s_ : Mem), SimR l G Y_X6_planDuty lim (K (.inr s_)) 100 [some (.inr (.inr x0)), some (.inr (.inr x1)), some (.inl x2), some (.inl x3), none, none] [] s_) : Sim l G Y_X6_planDuty lim (f_X6_planDuty_B39 M x0 x1 x2 x3 x4) K 39 [some (.inr (.inr x0)), some (.inr (.inr x1)), some (.inl x2), some (.inl x3), some (.inl x4), none] [] M := by
  unfold f_X6_planDuty_B39
  refine s_run (b := [(.iload 4, 2), (.aload_n 1, 1)]) 42 [some (.inr (.inr x0)), some (.inr (.inr x1)), some (.inl x2), some (.inl x3), some (.inl x4), none] [.inr (.inr x1), .inl x4] (by decide +kernel) rfl ?_
  refine s_gI fl_6_54 rfl (by decide +kernel) (fun v1 => ?_)
  refine s_ic_ge (tgt := 100) (off := 55) (by decide +kernel) (by decide) (fun h2 => ?_) (fun h2 => ?_)
  · skip
    exact s_lsub (ls' := [some (.inr (.inr x0)), some (.inr (.inr x1)), some (.inl x2), some (.inl x3), none, none]) ⟨rfl, ⟨rfl, ⟨rfl, ⟨rfl, trivial⟩⟩⟩⟩ (kk2_0 M)
  · skip
    refine s_run (b := [(.aload_n 0, 1), (.aload_n 1, 1), (.iload_n 3, 1), (.iconst 1, 1), (.iadd, 1), (.iload 4, 2)]) 55 [some (.inr (.inr x0)), some (.inr (.inr x1)), some (.inl x2), some (.inl x3), some (.inl x4), none] [.inl x4, .inl (x3 + (1 : Int32)), .inr (.inr x1), .inr (.inr x0)] (by decide +kernel) rfl ?_
    refine s_cV (Z := Y_X6_cheapest) (c := 6) (vs := [.inr (.inr x1), .inl (x3 + (1 : Int32)), .inl x4]) (st := []) (rO := fun z => some (.inl z)) (mO := fun _ => M) zk_X6_cheapest zi_X6_cheapest q1247 rfl ⟨by decide, by decide⟩ ⟨rfl, rfl⟩ rfl rfl (Nat.le_of_ble_eq_true rfl) (by decide +kernel) (fun z hz => c_X6_cheapest hz) (fun v3 => ?_)
    change Sim l G Y_X6_planDuty lim _ _ 58 [some (.inr (.inr x0)), some (.inr (.inr x1)), some (.inl x2), some (.inl x3), some (.inl x4), none] [.inl v3] M
    refine s_run (b := [(.istore 5, 2), (.aload_n 0, 1)]) 61 [some (.inr (.inr x0)), some (.inr (.inr x1)), some (.inl x2), some (.inl x3), some (.inl x4), some (.inl v3)] [.inr (.inr x0)] (by decide +kernel) rfl ?_
    refine s_gR fl_6_35 rfl (by decide +kernel) (fun v4 => ?_)
    refine s_run (b := [(.iload_n 3, 1), (.bipush 8, 2), (.imul, 1), (.iload 4, 2), (.iadd, 1), (.aload_n 1, 1)]) 72 [some (.inr (.inr x0)), some (.inr (.inr x1)), some (.inl x2), some (.inl x3), some (.inl x4), some (.inl v3)] [.inr (.inr x1), .inl ((x3 * (8 : Int32)) + x4), .inr (.inr v4)] (by decide +kernel) rfl ?_
    refine s_gR fl_6_154 rfl (by decide +kernel) (fun v5 => ?_)
    refine s_run (b := [(.iload 4, 2)]) 77 [some (.inr (.inr x0)), some (.inr (.inr x1)), some (.inl x2), some (.inl x3), some (.inl x4), some (.inl v3)] [.inl x4, .inr (.inr v5), .inl ((x3 * (8 : Int32)) + x4), .inr (.inr v4)] (by decide +kernel) rfl ?_
    refine s_ia (by decide +kernel) (fun v6 => ?_)
    refine s_run (b := [(.aload_n 0, 1)]) 79 [some (.inr (.inr x0)), some (.inr (.inr x1)), some (.inl x2), some (.inl x3), some (.inl x4), some (.inl v3)] [.inr (.inr x0), .inl v6, .inl ((x3 * (8 : Int32)) + x4), .inr (.inr v4)] (by decide +kernel) rfl ?_
    refine s_gR fl_6_35 rfl (by decide +kernel) (fun v7 => ?_)
    refine s_run (b := [(.iload_n 3, 1), (.iconst 1, 1), (.iadd, 1), (.bipush 8, 2), (.imul, 1), (.iload 5, 2), (.iadd, 1)]) 91 [some (.inr (.inr x0)), some (.inr (.inr x1)), some (.inl x2), some (.inl x3), some (.inl x4), some (.inl v3)] [.inl (((x3 + (1 : Int32)) * (8 : Int32)) + v3), .inr (.inr v7), .inl v6, .inl ((x3 * (8 : Int32)) + x4), .inr (.inr v4)] (by decide +kernel) rfl ?_
    refine s_ia (by decide +kernel) (fun v8 => ?_)
    refine s_run (b := [(.iadd, 1)]) 93 [some (.inr (.inr x0)), some (.inr (.inr x1)), some (.inl x2), some (.inl x3), some (.inl x4), some (.inl v3)] [.inl (v6 + v8), .inl ((x3 * (8 : Int32)) + x4), .inr (.inr v4)] (by decide +kernel) rfl ?_
    refine s_is (by decide +kernel) (fun M9 => ?_)
    refine s_run (b := [(.iinc 4 1, 3), (.goto (-58), 3)]) 39 [some (.inr (.inr x0)), some (.inr (.inr x1)), some (.inl x2), some (.inl x3), some (.inl (x4 + (1 : Int32))), some (.inl v3)] [] (by decide +kernel) rfl ?_
    exact s_lsub (ls' := [some (.inr (.inr x0)), some (.inr (.inr x1)), some (.inl x2), some (.inl x3), some (.inl (x4 + (1 : Int32))), none]) ⟨rfl, ⟨rfl, ⟨rfl, ⟨rfl, ⟨rfl, trivial⟩⟩⟩⟩⟩ (kk1 (x4 + (1 : Int32)) M9)
set_option maxRecDepth 20000 in
theorem L_X6_planDuty_39 {l : Launch} {G : Gv} {lim : Nat × Nat} (M : Mem) (x0 : Nat) (x1 : Nat) (x2 : Int32) (x3 : Int32) (x4 : Int32) (K : ((Mem)) → Option (Option Value × Mem)) (kk2_0 : ∀ r : Mem, SimR l G Y_X6_planDuty lim (K r) 100 [some (.inr (.inr x0)), some (.inr (.inr x1)), some (.inl x2), some (.inl x3), none, none] [] r) : Sim l G Y_X6_planDuty lim (f_X6_planDuty_L39 M x0 x1 x2 x3 x4) K 39 [some (.inr (.inr x0)), some (.inr (.inr x1)), some (.inl x2), some (.inl x3), some (.inl x4), none] [] M :=
  s_iter (f := fun s : Int32 × Mem => f_X6_planDuty_B39 s.2 x0 x1 x2 x3 s.1) (hd := 39) (cl := fun s => [some (.inr (.inr x0)), some (.inr (.inr x1)), some (.inl x2), some (.inl x3), some (.inl s.1), none]) (cm := fun s => s.2) (xp := fun _ => 100) (xl := fun r => [some (.inr (.inr x0)), some (.inr (.inr x1)), some (.inl x2), some (.inl x3), none, none]) (xm := fun r => r) (fun s K h1 h2 => B_X6_planDuty_39 s.2 x0 x1 x2 x3 s.1 K (fun a4 a_ => h1 (a4, a_)) (fun a_ => h2 a_)) 1048576 (x4, M) K kk2_0
def f_X6_planDuty_B32 (M : Mem) (x0 : Nat) (x1 : Nat) (x2 : Int32) (x3 : Int32) : Option ((Int32 × Mem) ⊕ ((Mem))) :=
  (if x3 < 0 then
    some (.inr M)
  else
    (f_X6_planDuty_L39 M x0 x1 x2 x3 (0 : Int32)).bind fun r2 =>
    some (.inl ((x3 + Int32.ofInt (-1)), r2)))
def f_X6_planDuty_L32 (M : Mem) (x0 : Nat) (x1 : Nat) (x2 : Int32) (x3 : Int32) : Option ((Mem)) := iter (fun s : Int32 × Mem => f_X6_planDuty_B32 s.2 x0 x1 x2 s.1) 1048576 (x3, M)
set_option maxRecDepth 20000 in
theorem B_X6_planDuty_32 {l : Launch} {G : Gv} {lim : Nat × Nat} (M : Mem) (x0 : Nat) (x1 : Nat) (x2 : Int32) (x3 : Int32) (K : (Int32 × Mem) ⊕ ((Mem)) → Option (Option Value × Mem)) (kk1 : ∀ (s3 : Int32) (s_ : Mem), SimR l G Y_X6_planDuty lim (K (.inl (s3, s_))) 32 [some (.inr (.inr x0)), some (.inr (.inr x1)), some (.inl x2), some (.inl s3), none, none] [] s_) (kk2_0 : ∀ (s_ : Mem), SimR l G Y_X6_planDuty lim (K (.inr s_)) 106 [some (.inr (.inr x0)), some (.inr (.inr x1)), some (.inl x2), none, none, none] [] s_) : Sim l G Y_X6_planDuty lim (f_X6_planDuty_B32 M x0 x1 x2 x3) K 32 [some (.inr (.inr x0)), some (.inr (.inr x1)), some (.inl x2), some (.inl x3), none, none] [] M := by
  unfold f_X6_planDuty_B32
  refine s_run (b := [(.iload_n 3, 1)]) 33 [some (.inr (.inr x0)), some (.inr (.inr x1)), some (.inl x2), some (.inl x3), none, none] [.inl x3] (by decide +kernel) rfl ?_
  refine s_if_lt (tgt := 106) (off := 73) (by decide +kernel) (by decide) (fun h1 => ?_) (fun h1 => ?_)
  · skip
    exact s_lsub (ls' := [some (.inr (.inr x0)), some (.inr (.inr x1)), some (.inl x2), none, none, none]) ⟨rfl, ⟨rfl, ⟨rfl, trivial⟩⟩⟩ (kk2_0 M)
  · skip
    refine s_run (b := [(.iconst 0, 1), (.istore 4, 2)]) 39 [some (.inr (.inr x0)), some (.inr (.inr x1)), some (.inl x2), some (.inl x3), some (.inl (0 : Int32)), none] [] (by decide +kernel) rfl ?_
    refine s_lsub (ls' := [some (.inr (.inr x0)), some (.inr (.inr x1)), some (.inl x2), some (.inl x3), some (.inl (0 : Int32)), none]) ⟨rfl, ⟨rfl, ⟨rfl, ⟨rfl, ⟨rfl, trivial⟩⟩⟩⟩⟩ ?_
    refine sim_bind (L_X6_planDuty_39 M x0 x1 x2 x3 (0 : Int32) _ (fun r2 => ?_))
    change Sim l G Y_X6_planDuty lim _ _ 100 [some (.inr (.inr x0)), some (.inr (.inr x1)), some (.inl x2), some (.inl x3), none, none] [] r2
    refine s_run (b := [(.iinc 3 (-1), 3), (.goto (-71), 3)]) 32 [some (.inr (.inr x0)), some (.inr (.inr x1)), some (.inl x2), some (.inl (x3 + Int32.ofInt (-1))), none, none] [] (by decide +kernel) rfl ?_
    exact s_lsub (ls' := [some (.inr (.inr x0)), some (.inr (.inr x1)), some (.inl x2), some (.inl (x3 + Int32.ofInt (-1))), none, none]) ⟨rfl, ⟨rfl, ⟨rfl, ⟨rfl, trivial⟩⟩⟩⟩ (kk1 (x3 + Int32.ofInt (-1)) r2)
set_option maxRecDepth 20000 in
theorem L_X6_planDuty_32 {l : Launch} {G : Gv} {lim : Nat × Nat} (M : Mem) (x0 : Nat) (x1 : Nat) (x2 : Int32) (x3 : Int32) (K : ((Mem)) → Option (Option Value × Mem)) (kk2_0 : ∀ r : Mem, SimR l G Y_X6_planDuty lim (K r) 106 [some (.inr (.inr x0)), some (.inr (.inr x1)), some (.inl x2), none, none, none] [] r) : Sim l G Y_X6_planDuty lim (f_X6_planDuty_L32 M x0 x1 x2 x3) K 32 [some (.inr (.inr x0)), some (.inr (.inr x1)), some (.inl x2), some (.inl x3), none, none] [] M :=
  s_iter (f := fun s : Int32 × Mem => f_X6_planDuty_B32 s.2 x0 x1 x2 s.1) (hd := 32) (cl := fun s => [some (.inr (.inr x0)), some (.inr (.inr x1)), some (.inl x2), some (.inl s.1), none, none]) (cm := fun s => s.2) (xp := fun _ => 106) (xl := fun r => [some (.inr (.inr x0)), some (.inr (.inr x1)), some (.inl x2), none, none, none]) (xm := fun r => r) (fun s K h1 h2 => B_X6_planDuty_32 s.2 x0 x1 x2 s.1 K (fun a3 a_ => h1 (a3, a_)) (fun a_ => h2 a_)) 1048576 (x3, M) K kk2_0
def f_X6_planDuty_B111 (M : Mem) (x0 : Nat) (x1 : Nat) (x2 : Int32) (x3 : Int32) (x4 : Int32) : Option ((Int32 × Int32 × Mem) ⊕ ((Mem))) :=
  (if x2 ≤ x4 then
    some (.inr M)
  else
    (ob M 6 x0).bind fun _ => (f_X6_cheapest M x0 x1 x4 x3).bind fun v2 =>
    (gR M 6 x0 2).bind fun v3 =>
    (sI M 0 v3 x4 v2).bind fun M4 =>
    some (.inl (v2, (x4 + (1 : Int32)), M4)))
def f_X6_planDuty_L111 (M : Mem) (x0 : Nat) (x1 : Nat) (x2 : Int32) (x3 : Int32) (x4 : Int32) : Option ((Mem)) := iter (fun s : Int32 × Int32 × Mem => f_X6_planDuty_B111 s.2.2 x0 x1 x2 s.1 s.2.1) 1048576 (x3, x4, M)
set_option maxRecDepth 20000 in
theorem B_X6_planDuty_111 {l : Launch} {G : Gv} {lim : Nat × Nat} (M : Mem) (x0 : Nat) (x1 : Nat) (x2 : Int32) (x3 : Int32) (x4 : Int32) (K : (Int32 × Int32 × Mem) ⊕ ((Mem)) → Option (Option Value × Mem)) (kk1 : ∀ (s3 : Int32) (s4 : Int32) (s_ : Mem), SimR l G Y_X6_planDuty lim (K (.inl (s3, s4, s_))) 111 [some (.inr (.inr x0)), some (.inr (.inr x1)), some (.inl x2), some (.inl s3), some (.inl s4), none] [] s_) (kk2_0 : ∀ (s_ : Mem), SimR l G Y_X6_planDuty lim (K (.inr s_)) 140 [some (.inr (.inr x0)), none, some (.inl x2), none, none, none] [] s_) : Sim l G Y_X6_planDuty lim (f_X6_planDuty_B111 M x0 x1 x2 x3 x4) K 111 [some (.inr (.inr x0)), some (.inr (.inr x1)), some (.inl x2), some (.inl x3), some (.inl x4), none] [] M := by
  unfold f_X6_planDuty_B111
  refine s_run (b := [(.iload 4, 2), (.iload_n 2, 1)]) 114 [some (.inr (.inr x0)), some (.inr (.inr x1)), some (.inl x2), some (.inl x3), some (.inl x4), none] [.inl x2, .inl x4] (by decide +kernel) rfl ?_
  refine s_ic_ge (tgt := 140) (off := 26) (by decide +kernel) (by decide) (fun h1 => ?_) (fun h1 => ?_)
  · skip
    exact s_lsub (ls' := [some (.inr (.inr x0)), none, some (.inl x2), none, none, none]) ⟨rfl, ⟨rfl, trivial⟩⟩ (kk2_0 M)
  · skip
    refine s_run (b := [(.aload_n 0, 1), (.aload_n 1, 1), (.iload 4, 2), (.iload_n 3, 1)]) 122 [some (.inr (.inr x0)), some (.inr (.inr x1)), some (.inl x2), some (.inl x3), some (.inl x4), none] [.inl x3, .inl x4, .inr (.inr x1), .inr (.inr x0)] (by decide +kernel) rfl ?_
    refine s_cV (Z := Y_X6_cheapest) (c := 6) (vs := [.inr (.inr x1), .inl x4, .inl x3]) (st := []) (rO := fun z => some (.inl z)) (mO := fun _ => M) zk_X6_cheapest zi_X6_cheapest q1247 rfl ⟨by decide, by decide⟩ ⟨rfl, rfl⟩ rfl rfl (Nat.le_of_ble_eq_true rfl) (by decide +kernel) (fun z hz => c_X6_cheapest hz) (fun v2 => ?_)
    change Sim l G Y_X6_planDuty lim _ _ 125 [some (.inr (.inr x0)), some (.inr (.inr x1)), some (.inl x2), some (.inl x3), some (.inl x4), none] [.inl v2] M
    refine s_run (b := [(.istore_n 3, 1), (.aload_n 0, 1)]) 127 [some (.inr (.inr x0)), some (.inr (.inr x1)), some (.inl x2), some (.inl v2), some (.inl x4), none] [.inr (.inr x0)] (by decide +kernel) rfl ?_
    refine s_gR fl_6_9 rfl (by decide +kernel) (fun v3 => ?_)
    refine s_run (b := [(.iload 4, 2), (.iload_n 3, 1)]) 133 [some (.inr (.inr x0)), some (.inr (.inr x1)), some (.inl x2), some (.inl v2), some (.inl x4), none] [.inl v2, .inl x4, .inr (.inr v3)] (by decide +kernel) rfl ?_
    refine s_is (by decide +kernel) (fun M4 => ?_)
    refine s_run (b := [(.iinc 4 1, 3), (.goto (-26), 3)]) 111 [some (.inr (.inr x0)), some (.inr (.inr x1)), some (.inl x2), some (.inl v2), some (.inl (x4 + (1 : Int32))), none] [] (by decide +kernel) rfl ?_
    exact s_lsub (ls' := [some (.inr (.inr x0)), some (.inr (.inr x1)), some (.inl x2), some (.inl v2), some (.inl (x4 + (1 : Int32))), none]) ⟨rfl, ⟨rfl, ⟨rfl, ⟨rfl, ⟨rfl, trivial⟩⟩⟩⟩⟩ (kk1 v2 (x4 + (1 : Int32)) M4)
set_option maxRecDepth 20000 in
theorem L_X6_planDuty_111 {l : Launch} {G : Gv} {lim : Nat × Nat} (M : Mem) (x0 : Nat) (x1 : Nat) (x2 : Int32) (x3 : Int32) (x4 : Int32) (K : ((Mem)) → Option (Option Value × Mem)) (kk2_0 : ∀ r : Mem, SimR l G Y_X6_planDuty lim (K r) 140 [some (.inr (.inr x0)), none, some (.inl x2), none, none, none] [] r) : Sim l G Y_X6_planDuty lim (f_X6_planDuty_L111 M x0 x1 x2 x3 x4) K 111 [some (.inr (.inr x0)), some (.inr (.inr x1)), some (.inl x2), some (.inl x3), some (.inl x4), none] [] M :=
  s_iter (f := fun s : Int32 × Int32 × Mem => f_X6_planDuty_B111 s.2.2 x0 x1 x2 s.1 s.2.1) (hd := 111) (cl := fun s => [some (.inr (.inr x0)), some (.inr (.inr x1)), some (.inl x2), some (.inl s.1), some (.inl s.2.1), none]) (cm := fun s => s.2.2) (xp := fun _ => 140) (xl := fun r => [some (.inr (.inr x0)), none, some (.inl x2), none, none, none]) (xm := fun r => r) (fun s K h1 h2 => B_X6_planDuty_111 s.2.2 x0 x1 x2 s.1 s.2.1 K (fun a3 a4 a_ => h1 (a3, a4, a_)) (fun a_ => h2 a_)) 1048576 (x3, x4, M) K kk2_0
def f_X6_planDuty_J160 (M : Mem)  (y0 : Nat) (y1 : Int32) : Option (Mem) :=
  (pI M 6 y0 0 y1).bind fun M1 =>
  some M1
set_option maxRecDepth 20000 in
theorem J_X6_planDuty_160 {l : Launch} {G : Gv} {lim : Nat × Nat} (M : Mem)  (y0 : Nat) (y1 : Int32)  : Sim l G Y_X6_planDuty lim (f_X6_planDuty_J160 M y0 y1) (fun z => some (none, z)) 160 [none, none, none, none, none, none] [.inl y1, .inr (.inr y0)] M := by
  unfold f_X6_planDuty_J160
  refine s_pI fl_6_68 (Or.inl rfl) rfl (by decide +kernel) (fun M1 => ?_)
  exact s_vret (by decide +kernel) rfl
def f_X6_planDuty (M : Mem) (x0 : Nat) (x1 : Nat) (x2 : Int32) : Option (Mem) :=
  (f_X6_planDuty_L2 M x0 x1 x2 (0 : Int32)).bind fun r1 =>
  (f_X6_planDuty_L32 r1 x0 x1 x2 (x2 - (1 : Int32))).bind fun r2 =>
  (f_X6_planDuty_L111 r2 x0 x1 x2 (-1 : Int32) (0 : Int32)).bind fun r3 =>
  (if x2 = 0 then
    f_X6_planDuty_J160 r3  x0 (0 : Int32)
  else
    (gR r3 6 x0 7).bind fun v5 =>
    (gR r3 6 x0 2).bind fun v6 =>
    (aI r3 0 v6 (0 : Int32)).bind fun v7 =>
    (aI r3 0 v5 v7).bind fun v8 =>
    f_X6_planDuty_J160 r3  x0 v8)
set_option maxRecDepth 20000 in
theorem S_X6_planDuty {l : Launch} {G : Gv} {lim : Nat × Nat} (M : Mem) (x0 : Nat) (x1 : Nat) (x2 : Int32) : Sim l G Y_X6_planDuty lim (f_X6_planDuty M x0 x1 x2) (fun z => some (none, z)) 0 [some (.inr (.inr x0)), some (.inr (.inr x1)), some (.inl x2), none, none, none] [] M := by
  unfold f_X6_planDuty
  refine s_run (b := [(.iconst 0, 1), (.istore_n 3, 1)]) 2 [some (.inr (.inr x0)), some (.inr (.inr x1)), some (.inl x2), some (.inl (0 : Int32)), none, none] [] (by decide +kernel) rfl ?_
  refine s_lsub (ls' := [some (.inr (.inr x0)), some (.inr (.inr x1)), some (.inl x2), some (.inl (0 : Int32)), none, none]) ⟨rfl, ⟨rfl, ⟨rfl, ⟨rfl, trivial⟩⟩⟩⟩ ?_
  refine sim_bind (L_X6_planDuty_2 M x0 x1 x2 (0 : Int32) _ (fun r1 => ?_))
  change Sim l G Y_X6_planDuty lim _ _ 28 [some (.inr (.inr x0)), some (.inr (.inr x1)), some (.inl x2), none, none, none] [] r1
  refine s_run (b := [(.iload_n 2, 1), (.iconst 1, 1), (.isub, 1), (.istore_n 3, 1)]) 32 [some (.inr (.inr x0)), some (.inr (.inr x1)), some (.inl x2), some (.inl (x2 - (1 : Int32))), none, none] [] (by decide +kernel) rfl ?_
  refine s_lsub (ls' := [some (.inr (.inr x0)), some (.inr (.inr x1)), some (.inl x2), some (.inl (x2 - (1 : Int32))), none, none]) ⟨rfl, ⟨rfl, ⟨rfl, ⟨rfl, trivial⟩⟩⟩⟩ ?_
  refine sim_bind (L_X6_planDuty_32 r1 x0 x1 x2 (x2 - (1 : Int32)) _ (fun r2 => ?_))
  change Sim l G Y_X6_planDuty lim _ _ 106 [some (.inr (.inr x0)), some (.inr (.inr x1)), some (.inl x2), none, none, none] [] r2
  refine s_run (b := [(.iconst (-1), 1), (.istore_n 3, 1), (.iconst 0, 1), (.istore 4, 2)]) 111 [some (.inr (.inr x0)), some (.inr (.inr x1)), some (.inl x2), some (.inl (-1 : Int32)), some (.inl (0 : Int32)), none] [] (by decide +kernel) rfl ?_
  refine s_lsub (ls' := [some (.inr (.inr x0)), some (.inr (.inr x1)), some (.inl x2), some (.inl (-1 : Int32)), some (.inl (0 : Int32)), none]) ⟨rfl, ⟨rfl, ⟨rfl, ⟨rfl, ⟨rfl, trivial⟩⟩⟩⟩⟩ ?_
  refine sim_bind (L_X6_planDuty_111 r2 x0 x1 x2 (-1 : Int32) (0 : Int32) _ (fun r3 => ?_))
  change Sim l G Y_X6_planDuty lim _ _ 140 [some (.inr (.inr x0)), none, some (.inl x2), none, none, none] [] r3
  refine s_run (b := [(.aload_n 0, 1), (.iload_n 2, 1)]) 142 [some (.inr (.inr x0)), none, some (.inl x2), none, none, none] [.inl x2, .inr (.inr x0)] (by decide +kernel) rfl ?_
  refine s_if_ne (tgt := 149) (off := 7) (by decide +kernel) (by decide) (fun h4 => ?_) (fun h4 => ?_)
  · skip
    refine s_run (b := [(.iconst 0, 1), (.goto 14, 3)]) 160 [some (.inr (.inr x0)), none, some (.inl x2), none, none, none] [.inl (0 : Int32), .inr (.inr x0)] (by decide +kernel) rfl ?_
    exact s_lsub (ls' := [none, none, none, none, none, none]) trivial (J_X6_planDuty_160 r3  x0 (0 : Int32))
  · skip
    refine s_run (b := [(.aload_n 0, 1)]) 150 [some (.inr (.inr x0)), none, some (.inl x2), none, none, none] [.inr (.inr x0), .inr (.inr x0)] (by decide +kernel) rfl ?_
    refine s_gR fl_6_35 rfl (by decide +kernel) (fun v5 => ?_)
    refine s_run (b := [(.aload_n 0, 1)]) 154 [some (.inr (.inr x0)), none, some (.inl x2), none, none, none] [.inr (.inr x0), .inr (.inr v5), .inr (.inr x0)] (by decide +kernel) rfl ?_
    refine s_gR fl_6_9 rfl (by decide +kernel) (fun v6 => ?_)
    refine s_run (b := [(.iconst 0, 1)]) 158 [some (.inr (.inr x0)), none, some (.inl x2), none, none, none] [.inl (0 : Int32), .inr (.inr v6), .inr (.inr v5), .inr (.inr x0)] (by decide +kernel) rfl ?_
    refine s_ia (by decide +kernel) (fun v7 => ?_)
    refine s_ia (by decide +kernel) (fun v8 => ?_)
    exact s_lsub (ls' := [none, none, none, none, none, none]) trivial (J_X6_planDuty_160 r3  x0 v8)
set_option maxRecDepth 20000 in
theorem c_X6_planDuty {l : Launch} {G : Gv} {M : Mem} {x0 : Nat} {x1 : Nat} {x2 : Int32} {z : Mem} (h : f_X6_planDuty M x0 x1 x2 = some z) : MetS l G Y_X6_planDuty [.inr (.inr x0), .inr (.inr x1), .inl x2] M none z :=
  met_of (ls0 := [some (.inr (.inr x0)), some (.inr (.inr x1)), some (.inl x2), none, none, none]) (by decide) rfl (lv_in (m := 3) rfl) (sl_le (Nat.le_of_ble_eq_true rfl)) (by rw [h]; rfl) (Or.inl ⟨rfl, rfl⟩) (S_X6_planDuty M x0 x1 x2)
