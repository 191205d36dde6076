def f_X5_hearersAt_B5 (M : Mem) (x0 : Nat) (x1 : Int32) (x2 : Int32) (x3 : Int32) (x4 : Int32) : Option ((Int32 × Int32) ⊕ ((Int32))) :=
  (gI M 5 x0 0).bind fun v1 =>
  (if v1 ≤ x4 then
    some (.inr x3)
  else
    (if x4 = x1 then
      some (.inl (x3, (x4 + (1 : Int32))))
    else
      (gR M 5 x0 6).bind fun v4 =>
      (aI M 0 v4 x4).bind fun v5 =>
      (gI M 5 x0 2).bind fun v6 =>
      (if v6 < (iabs (v5 - x2)) then
        some (.inl (x3, (x4 + (1 : Int32))))
      else
        some (.inl ((x3 + (1 : Int32)), (x4 + (1 : Int32)))))))
def f_X5_hearersAt_L5 (M : Mem) (x0 : Nat) (x1 : Int32) (x2 : Int32) (x3 : Int32) (x4 : Int32) : Option ((Int32)) := iter (fun s : Int32 × Int32 => f_X5_hearersAt_B5 M x0 x1 x2 s.1 s.2) 1048576 (x3, x4)
set_option maxRecDepth 20000 in
theorem B_X5_hearersAt_5 {l : Launch} {G : Gv} {lim : Nat × Nat} (M : Mem) (x0 : Nat) (x1 : Int32) (x2 : Int32) (x3 : Int32) (x4 : Int32) (K : (Int32 × Int32) ⊕ ((Int32)) → Option (Option Value × Mem)) (kk1 : ∀ (s3 : Int32) (s4 : Int32), SimR l G Y_X5_hearersAt lim (K (.inl (s3, s4))) 5 [some (.inr (.inr x0)), some (.inl x1), some (.inl x2), some (.inl s3), some (.inl s4)] [] M) (kk2_0 : ∀ (s3 : Int32), SimR l G Y_X5_hearersAt lim (K (.inr s3)) 48 [none, none, none, some (.inl s3), none] [] M) : Sim l G Y_X5_hearersAt lim (f_X5_hearersAt_B5 M x0 x1 x2 x3 x4) K 5 [some (.inr (.inr x0)), some (.inl x1), some (.inl x2), some (.inl x3), some (.inl x4)] [] M := by
  unfold f_X5_hearersAt_B5
  refine s_run (b := [(.iload 4, 2), (.aload_n 0, 1)]) 8 [some (.inr (.inr x0)), some (.inl x1), some (.inl x2), some (.inl x3), some (.inl x4)] [.inr (.inr x0), .inl x4] (by decide +kernel) rfl ?_
  refine s_gI fl_5_45 rfl (by decide +kernel) (fun v1 => ?_)
  refine s_ic_ge (tgt := 48) (off := 37) (by decide +kernel) (by decide) (fun h2 => ?_) (fun h2 => ?_)
  · skip
    exact s_lsub (ls' := [none, none, none, some (.inl x3), none]) ⟨rfl, trivial⟩ (kk2_0 x3)
  · skip
    refine s_run (b := [(.iload 4, 2), (.iload_n 1, 1)]) 17 [some (.inr (.inr x0)), some (.inl x1), some (.inl x2), some (.inl x3), some (.inl x4)] [.inl x1, .inl x4] (by decide +kernel) rfl ?_
    refine s_ic_eq (tgt := 42) (off := 25) (by decide +kernel) (by decide) (fun h3 => ?_) (fun h3 => ?_)
    · skip
      refine s_run (b := [(.iinc 4 1, 3), (.goto (-40), 3)]) 5 [some (.inr (.inr x0)), some (.inl x1), some (.inl x2), some (.inl x3), some (.inl (x4 + (1 : Int32)))] [] (by decide +kernel) rfl ?_
      exact s_lsub (ls' := [some (.inr (.inr x0)), some (.inl x1), some (.inl x2), some (.inl x3), some (.inl (x4 + (1 : Int32)))]) ⟨rfl, ⟨rfl, ⟨rfl, ⟨rfl, ⟨rfl, trivial⟩⟩⟩⟩⟩ (kk1 x3 (x4 + (1 : Int32)))
    · skip
      refine s_run (b := [(.aload_n 0, 1)]) 21 [some (.inr (.inr x0)), some (.inl x1), some (.inl x2), some (.inl x3), some (.inl x4)] [.inr (.inr x0)] (by decide +kernel) rfl ?_
      refine s_gR fl_5_15 rfl (by decide +kernel) (fun v4 => ?_)
      refine s_run (b := [(.iload 4, 2)]) 26 [some (.inr (.inr x0)), some (.inl x1), some (.inl x2), some (.inl x3), some (.inl x4)] [.inl x4, .inr (.inr v4)] (by decide +kernel) rfl ?_
      refine s_ia (by decide +kernel) (fun v5 => ?_)
      refine s_run (b := [(.iload_n 2, 1), (.isub, 1)]) 29 [some (.inr (.inr x0)), some (.inl x1), some (.inl x2), some (.inl x3), some (.inl x4)] [.inl (v5 - x2)] (by decide +kernel) rfl ?_
      refine s_iabs q673 ⟨Nat.le_of_ble_eq_true rfl, Nat.le_of_ble_eq_true rfl⟩ (by decide +kernel) ?_
      change Sim l G Y_X5_hearersAt lim _ _ 32 [some (.inr (.inr x0)), some (.inl x1), some (.inl x2), some (.inl x3), some (.inl x4)] [.inl (iabs (v5 - x2))] M
      refine s_run (b := [(.aload_n 0, 1)]) 33 [some (.inr (.inr x0)), some (.inl x1), some (.inl x2), some (.inl x3), some (.inl x4)] [.inr (.inr x0), .inl (iabs (v5 - x2))] (by decide +kernel) rfl ?_
      refine s_gI fl_5_52 rfl (by decide +kernel) (fun v6 => ?_)
      refine s_ic_gt (tgt := 42) (off := 6) (by decide +kernel) (by decide) (fun h7 => ?_) (fun h7 => ?_)
      · skip
        refine s_run (b := [(.iinc 4 1, 3), (.goto (-40), 3)]) 5 [some (.inr (.inr x0)), some (.inl x1), some (.inl x2), some (.inl x3), some (.inl (x4 + (1 : Int32)))] [] (by decide +kernel) rfl ?_
        exact s_lsub (ls' := [some (.inr (.inr x0)), some (.inl x1), some (.inl x2), some (.inl x3), some (.inl (x4 + (1 : Int32)))]) ⟨rfl, ⟨rfl, ⟨rfl, ⟨rfl, ⟨rfl, trivial⟩⟩⟩⟩⟩ (kk1 x3 (x4 + (1 : Int32)))
      · skip
        refine s_run (b := [(.iinc 3 1, 3), (.iinc 4 1, 3), (.goto (-40), 3)]) 5 [some (.inr (.inr x0)), some (.inl x1), some (.inl x2), some (.inl (x3 + (1 : Int32))), some (.inl (x4 + (1 : Int32)))] [] (by decide +kernel) rfl ?_
        exact s_lsub (ls' := [some (.inr (.inr x0)), some (.inl x1), some (.inl x2), some (.inl (x3 + (1 : Int32))), some (.inl (x4 + (1 : Int32)))]) ⟨rfl, ⟨rfl, ⟨rfl, ⟨rfl, ⟨rfl, trivial⟩⟩⟩⟩⟩ (kk1 (x3 + (1 : Int32)) (x4 + (1 : Int32)))
set_option maxRecDepth 20000 in
theorem L_X5_hearersAt_5 {l : Launch} {G : Gv} {lim : Nat × Nat} (M : Mem) (x0 : Nat) (x1 : Int32) (x2 : Int32) (x3 : Int32) (x4 : Int32) (K : ((Int32)) → Option (Option Value × Mem)) (kk2_0 : ∀ r : Int32, SimR l G Y_X5_hearersAt lim (K r) 48 [none, none, none, some (.inl r), none] [] M) : Sim l G Y_X5_hearersAt lim (f_X5_hearersAt_L5 M x0 x1 x2 x3 x4) K 5 [some (.inr (.inr x0)), some (.inl x1), some (.inl x2), some (.inl x3), some (.inl x4)] [] M :=
  s_iter (f := fun s : Int32 × Int32 => f_X5_hearersAt_B5 M x0 x1 x2 s.1 s.2) (hd := 5) (cl := fun s => [some (.inr (.inr x0)), some (.inl x1), some (.inl x2), some (.inl s.1), some (.inl s.2)]) (cm := fun s => M) (xp := fun _ => 48) (xl := fun r => [none, none, none, some (.inl r), none]) (xm := fun r => M) (fun s K h1 h2 => B_X5_hearersAt_5 M x0 x1 x2 s.1 s.2 K (fun a3 a4 => h1 (a3, a4)) (fun a3 => h2 a3)) 1048576 (x3, x4) K kk2_0
def f_X5_hearersAt (M : Mem) (x0 : Nat) (x1 : Int32) (x2 : Int32) : Option (Int32) :=
  (f_X5_hearersAt_L5 M x0 x1 x2 (0 : Int32) (0 : Int32)).bind fun r1 =>
  some r1
set_option maxRecDepth 20000 in
theorem S_X5_hearersAt {l : Launch} {G : Gv} {lim : Nat × Nat} (M : Mem) (x0 : Nat) (x1 : Int32) (x2 : Int32) : Sim l G Y_X5_hearersAt lim (f_X5_hearersAt M x0 x1 x2) (fun z => some (some (.int z), M)) 0 [some (.inr (.inr x0)), some (.inl x1), some (.inl x2), none, none] [] M := by
  unfold f_X5_hearersAt
  refine s_run (b := [(.iconst 0, 1), (.istore_n 3, 1), (.iconst 0, 1), (.istore 4, 2)]) 5 [some (.inr (.inr x0)), some (.inl x1), some (.inl x2), some (.inl (0 : Int32)), some (.inl (0 : Int32))] [] (by decide +kernel) rfl ?_
  refine s_lsub (ls' := [some (.inr (.inr x0)), some (.inl x1), some (.inl x2), some (.inl (0 : Int32)), some (.inl (0 : Int32))]) ⟨rfl, ⟨rfl, ⟨rfl, ⟨rfl, ⟨rfl, trivial⟩⟩⟩⟩⟩ ?_
  refine sim_bind (L_X5_hearersAt_5 M x0 x1 x2 (0 : Int32) (0 : Int32) _ (fun r1 => ?_))
  change Sim l G Y_X5_hearersAt lim _ _ 48 [none, none, none, some (.inl r1), none] [] M
  refine s_run (b := [(.iload_n 3, 1)]) 49 [none, none, none, some (.inl r1), none] [.inl r1] (by decide +kernel) rfl ?_
  exact s_iret (by decide +kernel) rfl
set_option maxRecDepth 20000 in
theorem c_X5_hearersAt {l : Launch} {G : Gv} {M : Mem} {x0 : Nat} {x1 : Int32} {x2 : Int32} {z : Int32} (h : f_X5_hearersAt M x0 x1 x2 = some z) : MetS l G Y_X5_hearersAt [.inr (.inr x0), .inl x1, .inl x2] M (some (.int z)) M :=
  met_of (ls0 := [some (.inr (.inr x0)), some (.inl x1), some (.inl x2), none, none]) (by decide) rfl (lv_in (m := 2) rfl) (sl_le (Nat.le_of_ble_eq_true rfl)) (by rw [h]; rfl) (Or.inl ⟨rfl, rfl⟩) (S_X5_hearersAt M x0 x1 x2)
def f_X5_quietestPlace_B4 (M : Mem) (x0 : Nat) (x1 : Int32) (x2 : Int32) (x3 : Int32) : Option ((Int32 × Int32) ⊕ ((Int32))) :=
  (if (30 : Int32) < x3 then
    some (.inr x2)
  else
    (ob M 5 x0).bind fun _ => (f_X5_hearersAt M x0 x1 x3).bind fun v2 =>
    (ob M 5 x0).bind fun _ => (f_X5_hearersAt M x0 x1 x2).bind fun v3 =>
    (if v3 ≤ v2 then
      some (.inl (x2, (x3 + (1 : Int32))))
    else
      some (.inl (x3, (x3 + (1 : Int32))))))
def f_X5_quietestPlace_L4 (M : Mem) (x0 : Nat) (x1 : Int32) (x2 : Int32) (x3 : Int32) : Option ((Int32)) := iter (fun s : Int32 × Int32 => f_X5_quietestPlace_B4 M x0 x1 s.1 s.2) 1048576 (x2, x3)
set_option maxRecDepth 20000 in
theorem B_X5_quietestPlace_4 {l : Launch} {G : Gv} {lim : Nat × Nat} (M : Mem) (x0 : Nat) (x1 : Int32) (x2 : Int32) (x3 : Int32) (K : (Int32 × Int32) ⊕ ((Int32)) → Option (Option Value × Mem)) (kk1 : ∀ (s2 : Int32) (s3 : Int32), SimR l G Y_X5_quietestPlace lim (K (.inl (s2, s3))) 4 [some (.inr (.inr x0)), some (.inl x1), some (.inl s2), some (.inl s3)] [] M) (kk2_0 : ∀ (s2 : Int32), SimR l G Y_X5_quietestPlace lim (K (.inr s2)) 33 [none, none, some (.inl s2), none] [] M) : Sim l G Y_X5_quietestPlace lim (f_X5_quietestPlace_B4 M x0 x1 x2 x3) K 4 [some (.inr (.inr x0)), some (.inl x1), some (.inl x2), some (.inl x3)] [] M := by
  unfold f_X5_quietestPlace_B4
  refine s_run (b := [(.iload_n 3, 1), (.bipush 30, 2)]) 7 [some (.inr (.inr x0)), some (.inl x1), some (.inl x2), some (.inl x3)] [.inl (30 : Int32), .inl x3] (by decide +kernel) rfl ?_
  refine s_ic_gt (tgt := 33) (off := 26) (by decide +kernel) (by decide) (fun h1 => ?_) (fun h1 => ?_)
  · skip
    exact s_lsub (ls' := [none, none, some (.inl x2), none]) ⟨rfl, trivial⟩ (kk2_0 x2)
  · skip
    refine s_run (b := [(.aload_n 0, 1), (.iload_n 1, 1), (.iload_n 3, 1)]) 13 [some (.inr (.inr x0)), some (.inl x1), some (.inl x2), some (.inl x3)] [.inl x3, .inl x1, .inr (.inr x0)] (by decide +kernel) rfl ?_
    refine s_cV (Z := Y_X5_hearersAt) (c := 5) (vs := [.inl x1, .inl x3]) (st := []) (rO := fun z => some (.inl z)) (mO := fun _ => M) zk_X5_hearersAt zi_X5_hearersAt q1136 rfl ⟨by decide, by decide⟩ ⟨rfl, rfl⟩ rfl rfl (Nat.le_of_ble_eq_true rfl) (by decide +kernel) (fun z hz => c_X5_hearersAt hz) (fun v2 => ?_)
    change Sim l G Y_X5_quietestPlace lim _ _ 16 [some (.inr (.inr x0)), some (.inl x1), some (.inl x2), some (.inl x3)] [.inl v2] M
    refine s_run (b := [(.aload_n 0, 1), (.iload_n 1, 1), (.iload_n 2, 1)]) 19 [some (.inr (.inr x0)), some (.inl x1), some (.inl x2), some (.inl x3)] [.inl x2, .inl x1, .inr (.inr x0), .inl v2] (by decide +kernel) rfl ?_
    refine s_cV (Z := Y_X5_hearersAt) (c := 5) (vs := [.inl x1, .inl x2]) (st := [.inl v2]) (rO := fun z => some (.inl z)) (mO := fun _ => M) zk_X5_hearersAt zi_X5_hearersAt q1136 rfl ⟨by decide, by decide⟩ ⟨rfl, rfl⟩ rfl rfl (Nat.le_of_ble_eq_true rfl) (by decide +kernel) (fun z hz => c_X5_hearersAt hz) (fun v3 => ?_)
    change Sim l G Y_X5_quietestPlace lim _ _ 22 [some (.inr (.inr x0)), some (.inl x1), some (.inl x2), some (.inl x3)] [.inl v3, .inl v2] M
    refine s_ic_ge (tgt := 27) (off := 5) (by decide +kernel) (by decide) (fun h4 => ?_) (fun h4 => ?_)
    · skip
      refine s_run (b := [(.iinc 3 1, 3), (.goto (-26), 3)]) 4 [some (.inr (.inr x0)), some (.inl x1), some (.inl x2), some (.inl (x3 + (1 : Int32)))] [] (by decide +kernel) rfl ?_
      exact s_lsub (ls' := [some (.inr (.inr x0)), some (.inl x1), some (.inl x2), some (.inl (x3 + (1 : Int32)))]) ⟨rfl, ⟨rfl, ⟨rfl, ⟨rfl, trivial⟩⟩⟩⟩ (kk1 x2 (x3 + (1 : Int32)))
    · skip
      refine s_run (b := [(.iload_n 3, 1), (.istore_n 2, 1), (.iinc 3 1, 3), (.goto (-26), 3)]) 4 [some (.inr (.inr x0)), some (.inl x1), some (.inl x3), some (.inl (x3 + (1 : Int32)))] [] (by decide +kernel) rfl ?_
      exact s_lsub (ls' := [some (.inr (.inr x0)), some (.inl x1), some (.inl x3), some (.inl (x3 + (1 : Int32)))]) ⟨rfl, ⟨rfl, ⟨rfl, ⟨rfl, trivial⟩⟩⟩⟩ (kk1 x3 (x3 + (1 : Int32)))
set_option maxRecDepth 20000 in
theorem L_X5_quietestPlace_4 {l : Launch} {G : Gv} {lim : Nat × Nat} (M : Mem) (x0 : Nat) (x1 : Int32) (x2 : Int32) (x3 : Int32) (K : ((Int32)) → Option (Option Value × Mem)) (kk2_0 : ∀ r : Int32, SimR l G Y_X5_quietestPlace lim (K r) 33 [none, none, some (.inl r), none] [] M) : Sim l G Y_X5_quietestPlace lim (f_X5_quietestPlace_L4 M x0 x1 x2 x3) K 4 [some (.inr (.inr x0)), some (.inl x1), some (.inl x2), some (.inl x3)] [] M :=
  s_iter (f := fun s : Int32 × Int32 => f_X5_quietestPlace_B4 M x0 x1 s.1 s.2) (hd := 4) (cl := fun s => [some (.inr (.inr x0)), some (.inl x1), some (.inl s.1), some (.inl s.2)]) (cm := fun s => M) (xp := fun _ => 33) (xl := fun r => [none, none, some (.inl r), none]) (xm := fun r => M) (fun s K h1 h2 => B_X5_quietestPlace_4 M x0 x1 s.1 s.2 K (fun a2 a3 => h1 (a2, a3)) (fun a2 => h2 a2)) 1048576 (x2, x3) K kk2_0
def f_X5_quietestPlace (M : Mem) (x0 : Nat) (x1 : Int32) : Option (Int32) :=
  (f_X5_quietestPlace_L4 M x0 x1 (0 : Int32) (1 : Int32)).bind fun r1 =>
  some r1
set_option maxRecDepth 20000 in
theorem S_X5_quietestPlace {l : Launch} {G : Gv} {lim : Nat × Nat} (M : Mem) (x0 : Nat) (x1 : Int32) : Sim l G Y_X5_quietestPlace lim (f_X5_quietestPlace M x0 x1) (fun z => some (some (.int z), M)) 0 [some (.inr (.inr x0)), some (.inl x1), none, none] [] M := by
  unfold f_X5_quietestPlace
  refine s_run (b := [(.iconst 0, 1), (.istore_n 2, 1), (.iconst 1, 1), (.istore_n 3, 1)]) 4 [some (.inr (.inr x0)), some (.inl x1), some (.inl (0 : Int32)), some (.inl (1 : Int32))] [] (by decide +kernel) rfl ?_
  refine s_lsub (ls' := [some (.inr (.inr x0)), some (.inl x1), some (.inl (0 : Int32)), some (.inl (1 : Int32))]) ⟨rfl, ⟨rfl, ⟨rfl, ⟨rfl, trivial⟩⟩⟩⟩ ?_
  refine sim_bind (L_X5_quietestPlace_4 M x0 x1 (0 : Int32) (1 : Int32) _ (fun r1 => ?_))
  change Sim l G Y_X5_quietestPlace lim _ _ 33 [none, none, some (.inl r1), none] [] M
  refine s_run (b := [(.iload_n 2, 1)]) 34 [none, none, some (.inl r1), none] [.inl r1] (by decide +kernel) rfl ?_
  exact s_iret (by decide +kernel) rfl
set_option maxRecDepth 20000 in
theorem c_X5_quietestPlace {l : Launch} {G : Gv} {M : Mem} {x0 : Nat} {x1 : Int32} {z : Int32} (h : f_X5_quietestPlace M x0 x1 = some z) : MetS l G Y_X5_quietestPlace [.inr (.inr x0), .inl x1] M (some (.int z)) M :=
  met_of (ls0 := [some (.inr (.inr x0)), some (.inl x1), none, none]) (by decide) rfl (lv_in (m := 2) rfl) (sl_le (Nat.le_of_ble_eq_true rfl)) (by rw [h]; rfl) (Or.inl ⟨rfl, rfl⟩) (S_X5_quietestPlace M x0 x1)
def f_X11_seat (M : Mem) (x0 : Nat) (x1 : Int32) (x2 : Int32) (x3 : Int32) : Option (Int32) :=
  (gR M 11 x0 0).bind fun v1 =>
  (ob M 9 v1).bind fun _ => (f_X9_officeAt M v1 x1).bind fun v2 =>
  (if v2 = 0 then
    some (-1 : Int32)
  else
    (ob M 5 v2).bind fun _ => (f_X5_hasDesk M v2 x2).bind fun v4 =>
    (if v4 = 0 then
      some (-1 : Int32)
    else
      (ob M 5 v2).bind fun _ => (f_X5_quietestPlace M v2 x2).bind fun v6 =>
      (if x3 = 0 then
        some v6
      else
        (ob M 5 v2).bind fun _ => (f_X5_hearersAt M v2 x2 v6).bind fun v8 =>
        some v8)))
set_option maxRecDepth 20000 in
theorem S_X11_seat {l : Launch} {G : Gv} {lim : Nat × Nat} (M : Mem) (x0 : Nat) (x1 : Int32) (x2 : Int32) (x3 : Int32) : Sim l G Y_X11_seat lim (f_X11_seat M x0 x1 x2 x3) (fun z => some (some (.int z), M)) 0 [some (.inr (.inr x0)), some (.inl x1), some (.inl x2), some (.inl x3), none, none] [] M := by
  unfold f_X11_seat
  refine s_run (b := [(.aload_n 0, 1)]) 1 [some (.inr (.inr x0)), some (.inl x1), some (.inl x2), some (.inl x3), none, none] [.inr (.inr x0)] (by decide +kernel) rfl ?_
  refine s_gR fl_11_10 rfl (by decide +kernel) (fun v1 => ?_)
  refine s_run (b := [(.iload_n 1, 1)]) 5 [some (.inr (.inr x0)), some (.inl x1), some (.inl x2), some (.inl x3), none, none] [.inl x1, .inr (.inr v1)] (by decide +kernel) rfl ?_
  refine s_cV (Z := Y_X9_officeAt) (c := 9) (vs := [.inl x1]) (st := []) (rO := fun z => some (.inr (.inr z))) (mO := fun _ => M) zk_X9_officeAt zi_X9_officeAt q716 rfl ⟨by decide, by decide⟩ ⟨rfl, rfl⟩ rfl rfl (Nat.le_of_ble_eq_true rfl) (by decide +kernel) (fun z hz => c_X9_officeAt hz) (fun v2 => ?_)
  change Sim l G Y_X11_seat lim _ _ 8 [some (.inr (.inr x0)), some (.inl x1), some (.inl x2), some (.inl x3), none, none] [.inr (.inr v2)] M
  refine s_run (b := [(.astore 4, 2), (.aload 4, 2)]) 12 [some (.inr (.inr x0)), some (.inl x1), some (.inl x2), some (.inl x3), some (.inr (.inr v2)), none] [.inr (.inr v2)] (by decide +kernel) rfl ?_
  refine s_ifnull (tgt := 24) (off := 12) (by decide +kernel) (by decide) (fun h3 => ?_) (fun h3 => ?_)
  · skip
    refine s_run (b := [(.iconst (-1), 1)]) 25 [some (.inr (.inr x0)), some (.inl x1), some (.inl x2), some (.inl x3), some (.inr (.inr v2)), none] [.inl (-1 : Int32)] (by decide +kernel) rfl ?_
    exact s_iret (by decide +kernel) rfl
  · skip
    refine s_run (b := [(.aload 4, 2), (.iload_n 2, 1)]) 18 [some (.inr (.inr x0)), some (.inl x1), some (.inl x2), some (.inl x3), some (.inr (.inr v2)), none] [.inl x2, .inr (.inr v2)] (by decide +kernel) rfl ?_
    refine s_cV (Z := Y_X5_hasDesk) (c := 5) (vs := [.inl x2]) (st := []) (rO := fun z => some (.inl z)) (mO := fun _ => M) zk_X5_hasDesk zi_X5_hasDesk q845 rfl ⟨by decide, by decide⟩ ⟨rfl, rfl⟩ rfl rfl (Nat.le_of_ble_eq_true rfl) (by decide +kernel) (fun z hz => c_X5_hasDesk hz) (fun v4 => ?_)
    change Sim l G Y_X11_seat lim _ _ 21 [some (.inr (.inr x0)), some (.inl x1), some (.inl x2), some (.inl x3), some (.inr (.inr v2)), none] [.inl v4] M
    refine s_if_ne (tgt := 26) (off := 5) (by decide +kernel) (by decide) (fun h5 => ?_) (fun h5 => ?_)
    · skip
      refine s_run (b := [(.iconst (-1), 1)]) 25 [some (.inr (.inr x0)), some (.inl x1), some (.inl x2), some (.inl x3), some (.inr (.inr v2)), none] [.inl (-1 : Int32)] (by decide +kernel) rfl ?_
      exact s_iret (by decide +kernel) rfl
    · skip
      refine s_run (b := [(.aload 4, 2), (.iload_n 2, 1)]) 29 [some (.inr (.inr x0)), some (.inl x1), some (.inl x2), some (.inl x3), some (.inr (.inr v2)), none] [.inl x2, .inr (.inr v2)] (by decide +kernel) rfl ?_
      refine s_cV (Z := Y_X5_quietestPlace) (c := 5) (vs := [.inl x2]) (st := []) (rO := fun z => some (.inl z)) (mO := fun _ => M) zk_X5_quietestPlace zi_X5_quietestPlace q1132 rfl ⟨by decide, by decide⟩ ⟨rfl, rfl⟩ rfl rfl (Nat.le_of_ble_eq_true rfl) (by decide +kernel) (fun z hz => c_X5_quietestPlace hz) (fun v6 => ?_)
      change Sim l G Y_X11_seat lim _ _ 32 [some (.inr (.inr x0)), some (.inl x1), some (.inl x2), some (.inl x3), some (.inr (.inr v2)), none] [.inl v6] M
      refine s_run (b := [(.istore 5, 2), (.iload_n 3, 1)]) 35 [some (.inr (.inr x0)), some (.inl x1), some (.inl x2), some (.inl x3), some (.inr (.inr v2)), some (.inl v6)] [.inl x3] (by decide +kernel) rfl ?_
      refine s_if_eq (tgt := 49) (off := 14) (by decide +kernel) (by decide) (fun h7 => ?_) (fun h7 => ?_)
      · skip
        refine s_run (b := [(.iload 5, 2)]) 51 [some (.inr (.inr x0)), some (.inl x1), some (.inl x2), some (.inl x3), some (.inr (.inr v2)), some (.inl v6)] [.inl v6] (by decide +kernel) rfl ?_
        exact s_iret (by decide +kernel) rfl
      · skip
        refine s_run (b := [(.aload 4, 2), (.iload_n 2, 1), (.iload 5, 2)]) 43 [some (.inr (.inr x0)), some (.inl x1), some (.inl x2), some (.inl x3), some (.inr (.inr v2)), some (.inl v6)] [.inl v6, .inl x2, .inr (.inr v2)] (by decide +kernel) rfl ?_
        refine s_cV (Z := Y_X5_hearersAt) (c := 5) (vs := [.inl x2, .inl v6]) (st := []) (rO := fun z => some (.inl z)) (mO := fun _ => M) zk_X5_hearersAt zi_X5_hearersAt q1140 rfl ⟨by decide, by decide⟩ ⟨rfl, rfl⟩ rfl rfl (Nat.le_of_ble_eq_true rfl) (by decide +kernel) (fun z hz => c_X5_hearersAt hz) (fun v8 => ?_)
        change Sim l G Y_X11_seat lim _ _ 46 [some (.inr (.inr x0)), some (.inl x1), some (.inl x2), some (.inl x3), some (.inr (.inr v2)), some (.inl v6)] [.inl v8] M
        refine s_run (b := [(.goto 5, 3)]) 51 [some (.inr (.inr x0)), some (.inl x1), some (.inl x2), some (.inl x3), some (.inr (.inr v2)), some (.inl v6)] [.inl v8] (by decide +kernel) rfl ?_
        exact s_iret (by decide +kernel) rfl
set_option maxRecDepth 20000 in
theorem c_X11_seat {l : Launch} {G : Gv} {M : Mem} {x0 : Nat} {x1 : Int32} {x2 : Int32} {x3 : Int32} {z : Int32} (h : f_X11_seat M x0 x1 x2 x3 = some z) : MetS l G Y_X11_seat [.inr (.inr x0), .inl x1, .inl x2, .inl x3] M (some (.int z)) M :=
  met_of (ls0 := [some (.inr (.inr x0)), some (.inl x1), some (.inl x2), some (.inl x3), none, none]) (by decide) rfl (lv_in (m := 2) rfl) (sl_le (Nat.le_of_ble_eq_true rfl)) (by rw [h]; rfl) (Or.inl ⟨rfl, rfl⟩) (S_X11_seat M x0 x1 x2 x3)
def f_X11_state (M : Mem) (x0 : Nat) (x1 : Int32) (x2 : Int32) (x3 : Int32) (x4 : Int32) : Option (Int32 × Mem) :=
  (gR M 11 x0 0).bind fun v1 =>
  (ob M 9 v1).bind fun _ => (f_X9_officeAt M v1 x1).bind fun v2 =>
  (gR M 11 x0 0).bind fun v3 =>
  (ob M 9 v3).bind fun _ => (f_X9_dayAt M v3 x2).bind fun v4 =>
  (if v2 = 0 then
    some ((-2 : Int32), M)
  else
    (if v4 = 0 then
      some ((-2 : Int32), M)
    else
      (if 0 ≤ x3 then
        (gR M 11 x0 5).bind fun v8 =>
        (ob M 2 v8).bind fun _ => (f_X2_playDay M v8 v2 v4 x3).bind fun z9 =>
        (if x3 ≤ z9.1 then
          (gR z9.2 11 x0 5).bind fun v11 =>
          (ob z9.2 2 v11).bind fun _ => (f_X2_tell z9.2 v11 x4).bind fun v12 =>
          some (v12, z9.2)
        else
          some ((-2 : Int32), z9.2))
      else
        some ((-2 : Int32), M))))
set_option maxRecDepth 20000 in
theorem S_X11_state {l : Launch} {G : Gv} {lim : Nat × Nat} (M : Mem) (x0 : Nat) (x1 : Int32) (x2 : Int32) (x3 : Int32) (x4 : Int32) : Sim l G Y_X11_state lim (f_X11_state M x0 x1 x2 x3 x4) (fun z => some (some (.int z.1), z.2)) 0 [some (.inr (.inr x0)), some (.inl x1), some (.inl x2), some (.inl x3), some (.inl x4), none, none] [] M := by
  unfold f_X11_state
  refine s_run (b := [(.aload_n 0, 1)]) 1 [some (.inr (.inr x0)), some (.inl x1), some (.inl x2), some (.inl x3), some (.inl x4), none, none] [.inr (.inr x0)] (by decide +kernel) rfl ?_
  refine s_gR fl_11_10 rfl (by decide +kernel) (fun v1 => ?_)
  refine s_run (b := [(.iload_n 1, 1)]) 5 [some (.inr (.inr x0)), some (.inl x1), some (.inl x2), some (.inl x3), some (.inl x4), none, none] [.inl x1, .inr (.inr v1)] (by decide +kernel) rfl ?_
  refine s_cV (Z := Y_X9_officeAt) (c := 9) (vs := [.inl x1]) (st := []) (rO := fun z => some (.inr (.inr z))) (mO := fun _ => M) zk_X9_officeAt zi_X9_officeAt q716 rfl ⟨by decide, by decide⟩ ⟨rfl, rfl⟩ rfl rfl (Nat.le_of_ble_eq_true rfl) (by decide +kernel) (fun z hz => c_X9_officeAt hz) (fun v2 => ?_)
  change Sim l G Y_X11_state lim _ _ 8 [some (.inr (.inr x0)), some (.inl x1), some (.inl x2), some (.inl x3), some (.inl x4), none, none] [.inr (.inr v2)] M
  refine s_run (b := [(.astore 5, 2), (.aload_n 0, 1)]) 11 [some (.inr (.inr x0)), some (.inl x1), some (.inl x2), some (.inl x3), some (.inl x4), some (.inr (.inr v2)), none] [.inr (.inr x0)] (by decide +kernel) rfl ?_
  refine s_gR fl_11_10 rfl (by decide +kernel) (fun v3 => ?_)
  refine s_run (b := [(.iload_n 2, 1)]) 15 [some (.inr (.inr x0)), some (.inl x1), some (.inl x2), some (.inl x3), some (.inl x4), some (.inr (.inr v2)), none] [.inl x2, .inr (.inr v3)] (by decide +kernel) rfl ?_
  refine s_cV (Z := Y_X9_dayAt) (c := 9) (vs := [.inl x2]) (st := []) (rO := fun z => some (.inr (.inr z))) (mO := fun _ => M) zk_X9_dayAt zi_X9_dayAt q744 rfl ⟨by decide, by decide⟩ ⟨rfl, rfl⟩ rfl rfl (Nat.le_of_ble_eq_true rfl) (by decide +kernel) (fun z hz => c_X9_dayAt hz) (fun v4 => ?_)
  change Sim l G Y_X11_state lim _ _ 18 [some (.inr (.inr x0)), some (.inl x1), some (.inl x2), some (.inl x3), some (.inl x4), some (.inr (.inr v2)), none] [.inr (.inr v4)] M
  refine s_run (b := [(.astore 6, 2), (.aload 5, 2)]) 22 [some (.inr (.inr x0)), some (.inl x1), some (.inl x2), some (.inl x3), some (.inl x4), some (.inr (.inr v2)), some (.inr (.inr v4))] [.inr (.inr v2)] (by decide +kernel) rfl ?_
  refine s_ifnull (tgt := 34) (off := 12) (by decide +kernel) (by decide) (fun h5 => ?_) (fun h5 => ?_)
  · skip
    refine s_run (b := [(.bipush (-2), 2)]) 36 [some (.inr (.inr x0)), some (.inl x1), some (.inl x2), some (.inl x3), some (.inl x4), some (.inr (.inr v2)), some (.inr (.inr v4))] [.inl (-2 : Int32)] (by decide +kernel) rfl ?_
    exact s_iret (by decide +kernel) rfl
  · skip
    refine s_run (b := [(.aload 6, 2)]) 27 [some (.inr (.inr x0)), some (.inl x1), some (.inl x2), some (.inl x3), some (.inl x4), some (.inr (.inr v2)), some (.inr (.inr v4))] [.inr (.inr v4)] (by decide +kernel) rfl ?_
    refine s_ifnull (tgt := 34) (off := 7) (by decide +kernel) (by decide) (fun h6 => ?_) (fun h6 => ?_)
    · skip
      refine s_run (b := [(.bipush (-2), 2)]) 36 [some (.inr (.inr x0)), some (.inl x1), some (.inl x2), some (.inl x3), some (.inl x4), some (.inr (.inr v2)), some (.inr (.inr v4))] [.inl (-2 : Int32)] (by decide +kernel) rfl ?_
      exact s_iret (by decide +kernel) rfl
    · skip
      refine s_run (b := [(.iload_n 3, 1)]) 31 [some (.inr (.inr x0)), some (.inl x1), some (.inl x2), some (.inl x3), some (.inl x4), some (.inr (.inr v2)), some (.inr (.inr v4))] [.inl x3] (by decide +kernel) rfl ?_
      refine s_if_ge (tgt := 37) (off := 6) (by decide +kernel) (by decide) (fun h7 => ?_) (fun h7 => ?_)
      · skip
        refine s_run (b := [(.aload_n 0, 1)]) 38 [some (.inr (.inr x0)), some (.inl x1), some (.inl x2), some (.inl x3), some (.inl x4), some (.inr (.inr v2)), some (.inr (.inr v4))] [.inr (.inr x0)] (by decide +kernel) rfl ?_
        refine s_gR fl_11_41 rfl (by decide +kernel) (fun v8 => ?_)
        refine s_run (b := [(.aload 5, 2), (.aload 6, 2), (.iload_n 3, 1)]) 46 [some (.inr (.inr x0)), some (.inl x1), some (.inl x2), some (.inl x3), some (.inl x4), some (.inr (.inr v2)), some (.inr (.inr v4))] [.inl x3, .inr (.inr v4), .inr (.inr v2), .inr (.inr v8)] (by decide +kernel) rfl ?_
        refine s_cV (Z := Y_X2_playDay) (c := 2) (vs := [.inr (.inr v2), .inr (.inr v4), .inl x3]) (st := []) (rO := fun z => some (.inl z.1)) (mO := fun z => z.2) zk_X2_playDay zi_X2_playDay q756 rfl ⟨by decide, by decide⟩ ⟨rfl, rfl⟩ rfl rfl (Nat.le_of_ble_eq_true rfl) (by decide +kernel) (fun z hz => c_X2_playDay hz) (fun z9 => ?_)
        change Sim l G Y_X11_state lim _ _ 49 [some (.inr (.inr x0)), some (.inl x1), some (.inl x2), some (.inl x3), some (.inl x4), some (.inr (.inr v2)), some (.inr (.inr v4))] [.inl z9.1] z9.2
        refine s_run (b := [(.iload_n 3, 1)]) 50 [some (.inr (.inr x0)), some (.inl x1), some (.inl x2), some (.inl x3), some (.inl x4), some (.inr (.inr v2)), some (.inr (.inr v4))] [.inl x3, .inl z9.1] (by decide +kernel) rfl ?_
        refine s_ic_ge (tgt := 56) (off := 6) (by decide +kernel) (by decide) (fun h10 => ?_) (fun h10 => ?_)
        · skip
          refine s_run (b := [(.aload_n 0, 1)]) 57 [some (.inr (.inr x0)), some (.inl x1), some (.inl x2), some (.inl x3), some (.inl x4), some (.inr (.inr v2)), some (.inr (.inr v4))] [.inr (.inr x0)] (by decide +kernel) rfl ?_
          refine s_gR fl_11_41 rfl (by decide +kernel) (fun v11 => ?_)
          refine s_run (b := [(.iload 4, 2)]) 62 [some (.inr (.inr x0)), some (.inl x1), some (.inl x2), some (.inl x3), some (.inl x4), some (.inr (.inr v2)), some (.inr (.inr v4))] [.inl x4, .inr (.inr v11)] (by decide +kernel) rfl ?_
          refine s_cV (Z := Y_X2_tell) (c := 2) (vs := [.inl x4]) (st := []) (rO := fun z => some (.inl z)) (mO := fun _ => z9.2) zk_X2_tell zi_X2_tell q833 rfl ⟨by decide, by decide⟩ ⟨rfl, rfl⟩ rfl rfl (Nat.le_of_ble_eq_true rfl) (by decide +kernel) (fun z hz => c_X2_tell hz) (fun v12 => ?_)
          change Sim l G Y_X11_state lim _ _ 65 [some (.inr (.inr x0)), some (.inl x1), some (.inl x2), some (.inl x3), some (.inl x4), some (.inr (.inr v2)), some (.inr (.inr v4))] [.inl v12] z9.2
          exact s_iret (by decide +kernel) rfl
        · skip
          refine s_run (b := [(.bipush (-2), 2)]) 55 [some (.inr (.inr x0)), some (.inl x1), some (.inl x2), some (.inl x3), some (.inl x4), some (.inr (.inr v2)), some (.inr (.inr v4))] [.inl (-2 : Int32)] (by decide +kernel) rfl ?_
          exact s_iret (by decide +kernel) rfl
      · skip
        refine s_run (b := [(.bipush (-2), 2)]) 36 [some (.inr (.inr x0)), some (.inl x1), some (.inl x2), some (.inl x3), some (.inl x4), some (.inr (.inr v2)), some (.inr (.inr v4))] [.inl (-2 : Int32)] (by decide +kernel) rfl ?_
        exact s_iret (by decide +kernel) rfl
set_option maxRecDepth 20000 in
theorem c_X11_state {l : Launch} {G : Gv} {M : Mem} {x0 : Nat} {x1 : Int32} {x2 : Int32} {x3 : Int32} {x4 : Int32} {z : Int32 × Mem} (h : f_X11_state M x0 x1 x2 x3 x4 = some z) : MetS l G Y_X11_state [.inr (.inr x0), .inl x1, .inl x2, .inl x3, .inl x4] M (some (.int z.1)) z.2 :=
  met_of (ls0 := [some (.inr (.inr x0)), some (.inl x1), some (.inl x2), some (.inl x3), some (.inl x4), none, none]) (by decide) rfl (lv_in (m := 2) rfl) (sl_le (Nat.le_of_ble_eq_true rfl)) (by rw [h]; rfl) (Or.inl ⟨rfl, rfl⟩) (S_X11_state M x0 x1 x2 x3 x4)
def f_X11_stop (M : Mem) (x0 : Nat) (x1 : Int32) (x2 : Int32) : Option (Int32 × Mem) :=
  (gR M 11 x0 0).bind fun v1 =>
  (ob M 9 v1).bind fun _ => (f_X9_officeAt M v1 x1).bind fun v2 =>
  (gR M 11 x0 0).bind fun v3 =>
  (ob M 9 v3).bind fun _ => (f_X9_dayAt M v3 x2).bind fun v4 =>
  (if v2 = 0 then
    some ((-1 : Int32), M)
  else
    (if v4 = 0 then
      some ((-1 : Int32), M)
    else
      (gR M 11 x0 5).bind fun v7 =>
      (ob M 2 v7).bind fun _ => (f_X2_playDay M v7 v2 v4 (40 : Int32)).bind fun z8 =>
      some (z8.1, z8.2)))
set_option maxRecDepth 20000 in
theorem S_X11_stop {l : Launch} {G : Gv} {lim : Nat × Nat} (M : Mem) (x0 : Nat) (x1 : Int32) (x2 : Int32) : Sim l G Y_X11_stop lim (f_X11_stop M x0 x1 x2) (fun z => some (some (.int z.1), z.2)) 0 [some (.inr (.inr x0)), some (.inl x1), some (.inl x2), none, none] [] M := by
  unfold f_X11_stop
  refine s_run (b := [(.aload_n 0, 1)]) 1 [some (.inr (.inr x0)), some (.inl x1), some (.inl x2), none, none] [.inr (.inr x0)] (by decide +kernel) rfl ?_
  refine s_gR fl_11_10 rfl (by decide +kernel) (fun v1 => ?_)
  refine s_run (b := [(.iload_n 1, 1)]) 5 [some (.inr (.inr x0)), some (.inl x1), some (.inl x2), none, none] [.inl x1, .inr (.inr v1)] (by decide +kernel) rfl ?_
  refine s_cV (Z := Y_X9_officeAt) (c := 9) (vs := [.inl x1]) (st := []) (rO := fun z => some (.inr (.inr z))) (mO := fun _ => M) zk_X9_officeAt zi_X9_officeAt q716 rfl ⟨by decide, by decide⟩ ⟨rfl, rfl⟩ rfl rfl (Nat.le_of_ble_eq_true rfl) (by decide +kernel) (fun z hz => c_X9_officeAt hz) (fun v2 => ?_)
  change Sim l G Y_X11_stop lim _ _ 8 [some (.inr (.inr x0)), some (.inl x1), some (.inl x2), none, none] [.inr (.inr v2)] M
  refine s_run (b := [(.astore_n 3, 1), (.aload_n 0, 1)]) 10 [some (.inr (.inr x0)), some (.inl x1), some (.inl x2), some (.inr (.inr v2)), none] [.inr (.inr x0)] (by decide +kernel) rfl ?_
  refine s_gR fl_11_10 rfl (by decide +kernel) (fun v3 => ?_)
  refine s_run (b := [(.iload_n 2, 1)]) 14 [some (.inr (.inr x0)), some (.inl x1), some (.inl x2), some (.inr (.inr v2)), none] [.inl x2, .inr (.inr v3)] (by decide +kernel) rfl ?_
  refine s_cV (Z := Y_X9_dayAt) (c := 9) (vs := [.inl x2]) (st := []) (rO := fun z => some (.inr (.inr z))) (mO := fun _ => M) zk_X9_dayAt zi_X9_dayAt q744 rfl ⟨by decide, by decide⟩ ⟨rfl, rfl⟩ rfl rfl (Nat.le_of_ble_eq_true rfl) (by decide +kernel) (fun z hz => c_X9_dayAt hz) (fun v4 => ?_)
  change Sim l G Y_X11_stop lim _ _ 17 [some (.inr (.inr x0)), some (.inl x1), some (.inl x2), some (.inr (.inr v2)), none] [.inr (.inr v4)] M
  refine s_run (b := [(.astore 4, 2), (.aload_n 3, 1)]) 20 [some (.inr (.inr x0)), some (.inl x1), some (.inl x2), some (.inr (.inr v2)), some (.inr (.inr v4))] [.inr (.inr v2)] (by decide +kernel) rfl ?_
  refine s_ifnull (tgt := 28) (off := 8) (by decide +kernel) (by decide) (fun h5 => ?_) (fun h5 => ?_)
  · skip
    refine s_run (b := [(.iconst (-1), 1)]) 29 [some (.inr (.inr x0)), some (.inl x1), some (.inl x2), some (.inr (.inr v2)), some (.inr (.inr v4))] [.inl (-1 : Int32)] (by decide +kernel) rfl ?_
    exact s_iret (by decide +kernel) rfl
  · skip
    refine s_run (b := [(.aload 4, 2)]) 25 [some (.inr (.inr x0)), some (.inl x1), some (.inl x2), some (.inr (.inr v2)), some (.inr (.inr v4))] [.inr (.inr v4)] (by decide +kernel) rfl ?_
    refine s_ifnonnull (tgt := 30) (off := 5) (by decide +kernel) (by decide) (fun h6 => ?_) (fun h6 => ?_)
    · skip
      refine s_run (b := [(.iconst (-1), 1)]) 29 [some (.inr (.inr x0)), some (.inl x1), some (.inl x2), some (.inr (.inr v2)), some (.inr (.inr v4))] [.inl (-1 : Int32)] (by decide +kernel) rfl ?_
      exact s_iret (by decide +kernel) rfl
    · skip
      refine s_run (b := [(.aload_n 0, 1)]) 31 [some (.inr (.inr x0)), some (.inl x1), some (.inl x2), some (.inr (.inr v2)), some (.inr (.inr v4))] [.inr (.inr x0)] (by decide +kernel) rfl ?_
      refine s_gR fl_11_41 rfl (by decide +kernel) (fun v7 => ?_)
      refine s_run (b := [(.aload_n 3, 1), (.aload 4, 2), (.bipush 40, 2)]) 39 [some (.inr (.inr x0)), some (.inl x1), some (.inl x2), some (.inr (.inr v2)), some (.inr (.inr v4))] [.inl (40 : Int32), .inr (.inr v4), .inr (.inr v2), .inr (.inr v7)] (by decide +kernel) rfl ?_
      refine s_cV (Z := Y_X2_playDay) (c := 2) (vs := [.inr (.inr v2), .inr (.inr v4), .inl (40 : Int32)]) (st := []) (rO := fun z => some (.inl z.1)) (mO := fun z => z.2) zk_X2_playDay zi_X2_playDay q756 rfl ⟨by decide, by decide⟩ ⟨rfl, rfl⟩ rfl rfl (Nat.le_of_ble_eq_true rfl) (by decide +kernel) (fun z hz => c_X2_playDay hz) (fun z8 => ?_)
      change Sim l G Y_X11_stop lim _ _ 42 [some (.inr (.inr x0)), some (.inl x1), some (.inl x2), some (.inr (.inr v2)), some (.inr (.inr v4))] [.inl z8.1] z8.2
      exact s_iret (by decide +kernel) rfl
set_option maxRecDepth 20000 in
theorem c_X11_stop {l : Launch} {G : Gv} {M : Mem} {x0 : Nat} {x1 : Int32} {x2 : Int32} {z : Int32 × Mem} (h : f_X11_stop M x0 x1 x2 = some z) : MetS l G Y_X11_stop [.inr (.inr x0), .inl x1, .inl x2] M (some (.int z.1)) z.2 :=
  met_of (ls0 := [some (.inr (.inr x0)), some (.inl x1), some (.inl x2), none, none]) (by decide) rfl (lv_in (m := 2) rfl) (sl_le (Nat.le_of_ble_eq_true rfl)) (by rw [h]; rfl) (Or.inl ⟨rfl, rfl⟩) (S_X11_stop M x0 x1 x2)
def f_X5_callsHaveDesks_B2 (M : Mem) (x0 : Nat) (x1 : Int32) : Option ((Int32) ⊕ ((Unit) ⊕ (Unit))) :=
  (gI M 5 x0 1).bind fun v1 =>
  (if v1 ≤ x1 then
    some (.inr (.inr ()))
  else
    (gR M 5 x0 10).bind fun v3 =>
    (aI M 0 v3 x1).bind fun v4 =>
    (ob M 5 x0).bind fun _ => (f_X5_hasDesk M x0 v4).bind fun v5 =>
    (if v5 = 0 then
      some (.inr (.inl ()))
    else
      some (.inl (x1 + (1 : Int32)))))
def f_X5_callsHaveDesks_L2 (M : Mem) (x0 : Nat) (x1 : Int32) : Option ((Unit) ⊕ (Unit)) := iter (fun s : Int32 => f_X5_callsHaveDesks_B2 M x0 s) 1048576 x1
set_option maxRecDepth 20000 in
theorem B_X5_callsHaveDesks_2 {l : Launch} {G : Gv} {lim : Nat × Nat} (M : Mem) (x0 : Nat) (x1 : Int32) (K : (Int32) ⊕ ((Unit) ⊕ (Unit)) → Option (Option Value × Mem)) (kk1 : ∀ (s1 : Int32), SimR l G Y_X5_callsHaveDesks lim (K (.inl s1)) 2 [some (.inr (.inr x0)), some (.inl s1)] [] M) (kk2_0 : SimR l G Y_X5_callsHaveDesks lim (K (.inr (.inl ()))) 23 [none, none] [] M) (kk2_1 : SimR l G Y_X5_callsHaveDesks lim (K (.inr (.inr ()))) 31 [none, none] [] M) : Sim l G Y_X5_callsHaveDesks lim (f_X5_callsHaveDesks_B2 M x0 x1) K 2 [some (.inr (.inr x0)), some (.inl x1)] [] M := by
  unfold f_X5_callsHaveDesks_B2
  refine s_run (b := [(.iload_n 1, 1), (.aload_n 0, 1)]) 4 [some (.inr (.inr x0)), some (.inl x1)] [.inr (.inr x0), .inl x1] (by decide +kernel) rfl ?_
  refine s_gI fl_5_49 rfl (by decide +kernel) (fun v1 => ?_)
  refine s_ic_ge (tgt := 31) (off := 24) (by decide +kernel) (by decide) (fun h2 => ?_) (fun h2 => ?_)
  · skip
    exact s_lsub (ls' := [none, none]) trivial (kk2_1 )
  · skip
    refine s_run (b := [(.aload_n 0, 1), (.aload_n 0, 1)]) 12 [some (.inr (.inr x0)), some (.inl x1)] [.inr (.inr x0), .inr (.inr x0)] (by decide +kernel) rfl ?_
    refine s_gR fl_5_27 rfl (by decide +kernel) (fun v3 => ?_)
    refine s_run (b := [(.iload_n 1, 1)]) 16 [some (.inr (.inr x0)), some (.inl x1)] [.inl x1, .inr (.inr v3), .inr (.inr x0)] (by decide +kernel) rfl ?_
    refine s_ia (by decide +kernel) (fun v4 => ?_)
    refine s_cV (Z := Y_X5_hasDesk) (c := 5) (vs := [.inl v4]) (st := []) (rO := fun z => some (.inl z)) (mO := fun _ => M) zk_X5_hasDesk zi_X5_hasDesk q680 rfl ⟨by decide, by decide⟩ ⟨rfl, rfl⟩ rfl rfl (Nat.le_of_ble_eq_true rfl) (by decide +kernel) (fun z hz => c_X5_hasDesk hz) (fun v5 => ?_)
    change Sim l G Y_X5_callsHaveDesks lim _ _ 20 [some (.inr (.inr x0)), some (.inl x1)] [.inl v5] M
    refine s_if_ne (tgt := 25) (off := 5) (by decide +kernel) (by decide) (fun h6 => ?_) (fun h6 => ?_)
    · skip
      exact s_lsub (ls' := [none, none]) trivial (kk2_0 )
    · skip
      refine s_run (b := [(.iinc 1 1, 3), (.goto (-26), 3)]) 2 [some (.inr (.inr x0)), some (.inl (x1 + (1 : Int32)))] [] (by decide +kernel) rfl ?_
      exact s_lsub (ls' := [some (.inr (.inr x0)), some (.inl (x1 + (1 : Int32)))]) ⟨rfl, ⟨rfl, trivial⟩⟩ (kk1 (x1 + (1 : Int32)))
set_option maxRecDepth 20000 in
theorem L_X5_callsHaveDesks_2 {l : Launch} {G : Gv} {lim : Nat × Nat} (M : Mem) (x0 : Nat) (x1 : Int32) (K : ((Unit) ⊕ (Unit)) → Option (Option Value × Mem)) (kk2_0 : ∀ r : Unit, SimR l G Y_X5_callsHaveDesks lim (K (.inl r)) 23 [none, none] [] M) (kk2_1 : ∀ r : Unit, SimR l G Y_X5_callsHaveDesks lim (K (.inr r)) 31 [none, none] [] M) : Sim l G Y_X5_callsHaveDesks lim (f_X5_callsHaveDesks_L2 M x0 x1) K 2 [some (.inr (.inr x0)), some (.inl x1)] [] M :=
  s_iter (f := fun s : Int32 => f_X5_callsHaveDesks_B2 M x0 s) (hd := 2) (cl := fun s => [some (.inr (.inr x0)), some (.inl s)]) (cm := fun s => M) (xp := (fun r => match r with | .inl r => 23 | .inr r => 31)) (xl := (fun r => match r with | .inl r => [none, none] | .inr r => [none, none])) (xm := (fun r => match r with | .inl r => M | .inr r => M)) (fun s K h1 h2 => B_X5_callsHaveDesks_2 M x0 s K (fun a1 => h1 a1) (h2 (.inl ())) (h2 (.inr ()))) 1048576 x1 K (fun r => by
    rcases r with r | r
    · exact kk2_0 r
    · exact kk2_1 r)
def f_X5_callsHaveDesks (M : Mem) (x0 : Nat) : Option (Int32) :=
  ((f_X5_callsHaveDesks_L2 M x0 (0 : Int32)).bind fun r1 => match r1 with
  | .inl r1 => some (0 : Int32)
  | .inr r1 => some (1 : Int32))
set_option maxRecDepth 20000 in
theorem S_X5_callsHaveDesks {l : Launch} {G : Gv} {lim : Nat × Nat} (M : Mem) (x0 : Nat) : Sim l G Y_X5_callsHaveDesks lim (f_X5_callsHaveDesks M x0) (fun z => some (some (.int z), M)) 0 [some (.inr (.inr x0)), none] [] M := by
  unfold f_X5_callsHaveDesks
  refine s_run (b := [(.iconst 0, 1), (.istore_n 1, 1)]) 2 [some (.inr (.inr x0)), some (.inl (0 : Int32))] [] (by decide +kernel) rfl ?_
  refine s_lsub (ls' := [some (.inr (.inr x0)), some (.inl (0 : Int32))]) ⟨rfl, ⟨rfl, trivial⟩⟩ ?_
  refine sim_bind (L_X5_callsHaveDesks_2 M x0 (0 : Int32) _ (fun r1 => ?_) (fun r1 => ?_))
  · change Sim l G Y_X5_callsHaveDesks lim _ _ 23 [none, none] [] M
    refine s_run (b := [(.iconst 0, 1)]) 24 [none, none] [.inl (0 : Int32)] (by decide +kernel) rfl ?_
    exact s_bret (Or.inl rfl) (by decide +kernel) rfl
  · change Sim l G Y_X5_callsHaveDesks lim _ _ 31 [none, none] [] M
    refine s_run (b := [(.iconst 1, 1)]) 32 [none, none] [.inl (1 : Int32)] (by decide +kernel) rfl ?_
    exact s_bret (Or.inr rfl) (by decide +kernel) rfl
set_option maxRecDepth 20000 in
theorem c_X5_callsHaveDesks {l : Launch} {G : Gv} {M : Mem} {x0 : Nat} {z : Int32} (h : f_X5_callsHaveDesks M x0 = some z) : MetS l G Y_X5_callsHaveDesks [.inr (.inr x0)] M (some (.int z)) M :=
  met_of (ls0 := [some (.inr (.inr x0)), none]) (by decide) rfl (lv_in (m := 1) rfl) (sl_le (Nat.le_of_ble_eq_true rfl)) (by rw [h]; rfl) (Or.inl ⟨rfl, rfl⟩) (S_X5_callsHaveDesks M x0)
def f_X5_measure_B19 (M : Mem) (x0 : Nat) (x1 : Int32) (x2 : Int32) : Option ((Int32 × Mem) ⊕ ((Mem))) :=
  (gI M 5 x0 0).bind fun v1 =>
  (if v1 ≤ x2 then
    some (.inr M)
  else
    (gR M 5 x0 6).bind fun v3 =>
    (aI M 0 v3 x2).bind fun v4 =>
    (gR M 5 x0 6).bind fun v5 =>
    (aI M 0 v5 x1).bind fun v6 =>
    (gR M 5 x0 14).bind fun v7 =>
    (sI M 0 v7 ((x1 * (8 : Int32)) + x2) (iabs (v4 - v6))).bind fun M8 =>
    (if x2 = x1 then
      some (.inl ((x2 + (1 : Int32)), M8))
    else
      (gI M8 5 x0 2).bind fun v10 =>
      (if v10 < (iabs (v4 - v6)) then
        some (.inl ((x2 + (1 : Int32)), M8))
      else
        (gR M8 5 x0 13).bind fun v12 =>
        (aI M8 0 v12 x1).bind fun v13 =>
        (sI M8 0 v12 x1 (v13 ||| ((1 : Int32) <<< (x2 &&& 31)))).bind fun M14 =>
        some (.inl ((x2 + (1 : Int32)), M14)))))
def f_X5_measure_L19 (M : Mem) (x0 : Nat) (x1 : Int32) (x2 : Int32) : Option ((Mem)) := iter (fun s : Int32 × Mem => f_X5_measure_B19 s.2 x0 x1 s.1) 1048576 (x2, M)
set_option maxRecDepth 20000 in
theorem B_X5_measure_19 {l : Launch} {G : Gv} {lim : Nat × Nat} (M : Mem) (x0 : Nat) (x1 : Int32) (x2 : Int32) (K : (Int32 × Mem) ⊕ ((Mem)) → Option (Option Value × Mem)) (kk1 : ∀ (s2 : Int32) (s_ : Mem), SimR l G Y_X5_measure lim (K (.inl (s2, s_))) 19 [some (.inr (.inr x0)), some (.inl x1), some (.inl s2), none] [] s_) (kk2_0 : ∀ (s_ : Mem), SimR l G Y_X5_measure lim (K (.inr s_)) 87 [some (.inr (.inr x0)), some (.inl x1), none, none] [] s_) : Sim l G Y_X5_measure lim (f_X5_measure_B19 M x0 x1 x2) K 19 [some (.inr (.inr x0)), some (.inl x1), some (.inl x2), none] [] M := by
  unfold f_X5_measure_B19
  refine s_run (b := [(.iload_n 2, 1), (.aload_n 0, 1)]) 21 [some (.inr (.inr x0)), some (.inl x1), some (.inl x2), none] [.inr (.inr x0), .inl x2] (by decide +kernel) rfl ?_
  refine s_gI fl_5_45 rfl (by decide +kernel) (fun v1 => ?_)
  refine s_ic_ge (tgt := 87) (off := 63) (by decide +kernel) (by decide) (fun h2 => ?_) (fun h2 => ?_)
  · skip
    exact s_lsub (ls' := [some (.inr (.inr x0)), some (.inl x1), none, none]) ⟨rfl, ⟨rfl, trivial⟩⟩ (kk2_0 M)
  · skip
    refine s_run (b := [(.aload_n 0, 1)]) 28 [some (.inr (.inr x0)), some (.inl x1), some (.inl x2), none] [.inr (.inr x0)] (by decide +kernel) rfl ?_
    refine s_gR fl_5_15 rfl (by decide +kernel) (fun v3 => ?_)
    refine s_run (b := [(.iload_n 2, 1)]) 32 [some (.inr (.inr x0)), some (.inl x1), some (.inl x2), none] [.inl x2, .inr (.inr v3)] (by decide +kernel) rfl ?_
    refine s_ia (by decide +kernel) (fun v4 => ?_)
    refine s_run (b := [(.aload_n 0, 1)]) 34 [some (.inr (.inr x0)), some (.inl x1), some (.inl x2), none] [.inr (.inr x0), .inl v4] (by decide +kernel) rfl ?_
    refine s_gR fl_5_15 rfl (by decide +kernel) (fun v5 => ?_)
    refine s_run (b := [(.iload_n 1, 1)]) 38 [some (.inr (.inr x0)), some (.inl x1), some (.inl x2), none] [.inl x1, .inr (.inr v5), .inl v4] (by decide +kernel) rfl ?_
    refine s_ia (by decide +kernel) (fun v6 => ?_)
    refine s_run (b := [(.isub, 1)]) 40 [some (.inr (.inr x0)), some (.inl x1), some (.inl x2), none] [.inl (v4 - v6)] (by decide +kernel) rfl ?_
    refine s_iabs q673 ⟨Nat.le_of_ble_eq_true rfl, Nat.le_of_ble_eq_true rfl⟩ (by decide +kernel) ?_
    change Sim l G Y_X5_measure lim _ _ 43 [some (.inr (.inr x0)), some (.inl x1), some (.inl x2), none] [.inl (iabs (v4 - v6))] M
    refine s_run (b := [(.istore_n 3, 1), (.aload_n 0, 1)]) 45 [some (.inr (.inr x0)), some (.inl x1), some (.inl x2), some (.inl (iabs (v4 - v6)))] [.inr (.inr x0)] (by decide +kernel) rfl ?_
    refine s_gR fl_5_39 rfl (by decide +kernel) (fun v7 => ?_)
    refine s_run (b := [(.iload_n 1, 1), (.bipush 8, 2), (.imul, 1), (.iload_n 2, 1), (.iadd, 1), (.iload_n 3, 1)]) 55 [some (.inr (.inr x0)), some (.inl x1), some (.inl x2), some (.inl (iabs (v4 - v6)))] [.inl (iabs (v4 - v6)), .inl ((x1 * (8 : Int32)) + x2), .inr (.inr v7)] (by decide +kernel) rfl ?_
    refine s_is (by decide +kernel) (fun M8 => ?_)
    refine s_run (b := [(.iload_n 2, 1), (.iload_n 1, 1)]) 58 [some (.inr (.inr x0)), some (.inl x1), some (.inl x2), some (.inl (iabs (v4 - v6)))] [.inl x1, .inl x2] (by decide +kernel) rfl ?_
    refine s_ic_eq (tgt := 81) (off := 23) (by decide +kernel) (by decide) (fun h9 => ?_) (fun h9 => ?_)
    · skip
      refine s_run (b := [(.iinc 2 1, 3), (.goto (-65), 3)]) 19 [some (.inr (.inr x0)), some (.inl x1), some (.inl (x2 + (1 : Int32))), some (.inl (iabs (v4 - v6)))] [] (by decide +kernel) rfl ?_
      exact s_lsub (ls' := [some (.inr (.inr x0)), some (.inl x1), some (.inl (x2 + (1 : Int32))), none]) ⟨rfl, ⟨rfl, ⟨rfl, trivial⟩⟩⟩ (kk1 (x2 + (1 : Int32)) M8)
    · skip
      refine s_run (b := [(.iload_n 3, 1), (.aload_n 0, 1)]) 63 [some (.inr (.inr x0)), some (.inl x1), some (.inl x2), some (.inl (iabs (v4 - v6)))] [.inr (.inr x0), .inl (iabs (v4 - v6))] (by decide +kernel) rfl ?_
      refine s_gI fl_5_52 rfl (by decide +kernel) (fun v10 => ?_)
      refine s_ic_gt (tgt := 81) (off := 15) (by decide +kernel) (by decide) (fun h11 => ?_) (fun h11 => ?_)
      · skip
        refine s_run (b := [(.iinc 2 1, 3), (.goto (-65), 3)]) 19 [some (.inr (.inr x0)), some (.inl x1), some (.inl (x2 + (1 : Int32))), some (.inl (iabs (v4 - v6)))] [] (by decide +kernel) rfl ?_
        exact s_lsub (ls' := [some (.inr (.inr x0)), some (.inl x1), some (.inl (x2 + (1 : Int32))), none]) ⟨rfl, ⟨rfl, ⟨rfl, trivial⟩⟩⟩ (kk1 (x2 + (1 : Int32)) M8)
      · skip
        refine s_run (b := [(.aload_n 0, 1)]) 70 [some (.inr (.inr x0)), some (.inl x1), some (.inl x2), some (.inl (iabs (v4 - v6)))] [.inr (.inr x0)] (by decide +kernel) rfl ?_
        refine s_gR fl_5_36 rfl (by decide +kernel) (fun v12 => ?_)
        refine s_run (b := [(.iload_n 1, 1), (.dup2, 1)]) 75 [some (.inr (.inr x0)), some (.inl x1), some (.inl x2), some (.inl (iabs (v4 - v6)))] [.inl x1, .inr (.inr v12), .inl x1, .inr (.inr v12)] (by decide +kernel) rfl ?_
        refine s_ia (by decide +kernel) (fun v13 => ?_)
        refine s_run (b := [(.iconst 1, 1), (.iload_n 2, 1), (.ishl, 1), (.ior, 1)]) 80 [some (.inr (.inr x0)), some (.inl x1), some (.inl x2), some (.inl (iabs (v4 - v6)))] [.inl (v13 ||| ((1 : Int32) <<< (x2 &&& 31))), .inl x1, .inr (.inr v12)] (by decide +kernel) rfl ?_
        refine s_is (by decide +kernel) (fun M14 => ?_)
        refine s_run (b := [(.iinc 2 1, 3), (.goto (-65), 3)]) 19 [some (.inr (.inr x0)), some (.inl x1), some (.inl (x2 + (1 : Int32))), some (.inl (iabs (v4 - v6)))] [] (by decide +kernel) rfl ?_
        exact s_lsub (ls' := [some (.inr (.inr x0)), some (.inl x1), some (.inl (x2 + (1 : Int32))), none]) ⟨rfl, ⟨rfl, ⟨rfl, trivial⟩⟩⟩ (kk1 (x2 + (1 : Int32)) M14)
set_option maxRecDepth 20000 in
theorem L_X5_measure_19 {l : Launch} {G : Gv} {lim : Nat × Nat} (M : Mem) (x0 : Nat) (x1 : Int32) (x2 : Int32) (K : ((Mem)) → Option (Option Value × Mem)) (kk2_0 : ∀ r : Mem, SimR l G Y_X5_measure lim (K r) 87 [some (.inr (.inr x0)), some (.inl x1), none, none] [] r) : Sim l G Y_X5_measure lim (f_X5_measure_L19 M x0 x1 x2) K 19 [some (.inr (.inr x0)), some (.inl x1), some (.inl x2), none] [] M :=
  s_iter (f := fun s : Int32 × Mem => f_X5_measure_B19 s.2 x0 x1 s.1) (hd := 19) (cl := fun s => [some (.inr (.inr x0)), some (.inl x1), some (.inl s.1), none]) (cm := fun s => s.2) (xp := fun _ => 87) (xl := fun r => [some (.inr (.inr x0)), some (.inl x1), none, none]) (xm := fun r => r) (fun s K h1 h2 => B_X5_measure_19 s.2 x0 x1 s.1 K (fun a2 a_ => h1 (a2, a_)) (fun a_ => h2 a_)) 1048576 (x2, M) K kk2_0
def f_X5_measure_B2 (M : Mem) (x0 : Nat) (x1 : Int32) : Option ((Int32 × Mem) ⊕ ((Mem))) :=
  (gI M 5 x0 0).bind fun v1 =>
  (if v1 ≤ x1 then
    some (.inr M)
  else
    (gR M 5 x0 13).bind fun v3 =>
    (sI M 0 v3 x1 (0 : Int32)).bind fun M4 =>
    (f_X5_measure_L19 M4 x0 x1 (0 : Int32)).bind fun r5 =>
    some (.inl ((x1 + (1 : Int32)), r5)))
def f_X5_measure_L2 (M : Mem) (x0 : Nat) (x1 : Int32) : Option ((Mem)) := iter (fun s : Int32 × Mem => f_X5_measure_B2 s.2 x0 s.1) 1048576 (x1, M)
set_option maxRecDepth 20000 in
theorem B_X5_measure_2 {l : Launch} {G : Gv} {lim : Nat × Nat} (M : Mem) (x0 : Nat) (x1 : Int32) (K : (Int32 × Mem) ⊕ ((Mem)) → Option (Option Value × Mem)) (kk1 : ∀ (s1 : Int32) (s_ : Mem), SimR l G Y_X5_measure lim (K (.inl (s1, s_))) 2 [some (.inr (.inr x0)), some (.inl s1), none, none] [] s_) (kk2_0 : ∀ (s_ : Mem), SimR l G Y_X5_measure lim (K (.inr s_)) 93 [none, none, none, none] [] s_) : Sim l G Y_X5_measure lim (f_X5_measure_B2 M x0 x1) K 2 [some (.inr (.inr x0)), some (.inl x1), none, none] [] M := by
  unfold f_X5_measure_B2
  refine s_run (b := [(.iload_n 1, 1), (.aload_n 0, 1)]) 4 [some (.inr (.inr x0)), some (.inl x1), none, none] [.inr (.inr x0), .inl x1] (by decide +kernel) rfl ?_
  refine s_gI fl_5_45 rfl (by decide +kernel) (fun v1 => ?_)
  refine s_ic_ge (tgt := 93) (off := 86) (by decide +kernel) (by decide) (fun h2 => ?_) (fun h2 => ?_)
  · skip
    exact s_lsub (ls' := [none, none, none, none]) trivial (kk2_0 M)
  · skip
    refine s_run (b := [(.aload_n 0, 1)]) 11 [some (.inr (.inr x0)), some (.inl x1), none, none] [.inr (.inr x0)] (by decide +kernel) rfl ?_
    refine s_gR fl_5_36 rfl (by decide +kernel) (fun v3 => ?_)
    refine s_run (b := [(.iload_n 1, 1), (.iconst 0, 1)]) 16 [some (.inr (.inr x0)), some (.inl x1), none, none] [.inl (0 : Int32), .inl x1, .inr (.inr v3)] (by decide +kernel) rfl ?_
    refine s_is (by decide +kernel) (fun M4 => ?_)
    refine s_run (b := [(.iconst 0, 1), (.istore_n 2, 1)]) 19 [some (.inr (.inr x0)), some (.inl x1), some (.inl (0 : Int32)), none] [] (by decide +kernel) rfl ?_
    refine s_lsub (ls' := [some (.inr (.inr x0)), some (.inl x1), some (.inl (0 : Int32)), none]) ⟨rfl, ⟨rfl, ⟨rfl, trivial⟩⟩⟩ ?_
    refine sim_bind (L_X5_measure_19 M4 x0 x1 (0 : Int32) _ (fun r5 => ?_))
    change Sim l G Y_X5_measure lim _ _ 87 [some (.inr (.inr x0)), some (.inl x1), none, none] [] r5
    refine s_run (b := [(.iinc 1 1, 3), (.goto (-88), 3)]) 2 [some (.inr (.inr x0)), some (.inl (x1 + (1 : Int32))), none, none] [] (by decide +kernel) rfl ?_
    exact s_lsub (ls' := [some (.inr (.inr x0)), some (.inl (x1 + (1 : Int32))), none, none]) ⟨rfl, ⟨rfl, trivial⟩⟩ (kk1 (x1 + (1 : Int32)) r5)
set_option maxRecDepth 20000 in
theorem L_X5_measure_2 {l : Launch} {G : Gv} {lim : Nat × Nat} (M : Mem) (x0 : Nat) (x1 : Int32) (K : ((Mem)) → Option (Option Value × Mem)) (kk2_0 : ∀ r : Mem, SimR l G Y_X5_measure lim (K r) 93 [none, none, none, none] [] r) : Sim l G Y_X5_measure lim (f_X5_measure_L2 M x0 x1) K 2 [some (.inr (.inr x0)), some (.inl x1), none, none] [] M :=
  s_iter (f := fun s : Int32 × Mem => f_X5_measure_B2 s.2 x0 s.1) (hd := 2) (cl := fun s => [some (.inr (.inr x0)), some (.inl s.1), none, none]) (cm := fun s => s.2) (xp := fun _ => 93) (xl := fun r => [none, none, none, none]) (xm := fun r => r) (fun s K h1 h2 => B_X5_measure_2 s.2 x0 s.1 K (fun a1 a_ => h1 (a1, a_)) (fun a_ => h2 a_)) 1048576 (x1, M) K kk2_0
def f_X5_measure (M : Mem) (x0 : Nat) : Option (Mem) :=
  (f_X5_measure_L2 M x0 (0 : Int32)).bind fun r1 =>
  some r1
set_option maxRecDepth 20000 in
theorem S_X5_measure {l : Launch} {G : Gv} {lim : Nat × Nat} (M : Mem) (x0 : Nat) : Sim l G Y_X5_measure lim (f_X5_measure M x0) (fun z => some (none, z)) 0 [some (.inr (.inr x0)), none, none, none] [] M := by
  unfold f_X5_measure
  refine s_run (b := [(.iconst 0, 1), (.istore_n 1, 1)]) 2 [some (.inr (.inr x0)), some (.inl (0 : Int32)), none, none] [] (by decide +kernel) rfl ?_
  refine s_lsub (ls' := [some (.inr (.inr x0)), some (.inl (0 : Int32)), none, none]) ⟨rfl, ⟨rfl, trivial⟩⟩ ?_
  refine sim_bind (L_X5_measure_2 M x0 (0 : Int32) _ (fun r1 => ?_))
  change Sim l G Y_X5_measure lim _ _ 93 [none, none, none, none] [] r1
  exact s_vret (by decide +kernel) rfl
set_option maxRecDepth 20000 in
theorem c_X5_measure {l : Launch} {G : Gv} {M : Mem} {x0 : Nat} {z : Mem} (h : f_X5_measure M x0 = some z) : MetS l G Y_X5_measure [.inr (.inr x0)] M none z :=
  met_of (ls0 := [some (.inr (.inr x0)), none, none, none]) (by decide) rfl (lv_in (m := 3) rfl) (sl_le (Nat.le_of_ble_eq_true rfl)) (by rw [h]; rfl) (Or.inl ⟨rfl, rfl⟩) (S_X5_measure M x0)
def f_X7_mark (M : Mem) (x0 : Nat) (x1 : Int32) (x2 : Int32) : Option (Mem) :=
  (gI M 7 x0 3).bind fun v1 =>
  (if v1 = 0 then
    (pI M 7 x0 3 x1).bind fun M3 =>
    (pI M3 7 x0 4 x2).bind fun M4 =>
    some M4
  else
    some M)
set_option maxRecDepth 20000 in
theorem S_X7_mark {l : Launch} {G : Gv} {lim : Nat × Nat} (M : Mem) (x0 : Nat) (x1 : Int32) (x2 : Int32) : Sim l G Y_X7_mark lim (f_X7_mark M x0 x1 x2) (fun z => some (none, z)) 0 [some (.inr (.inr x0)), some (.inl x1), some (.inl x2)] [] M := by
  unfold f_X7_mark
  refine s_run (b := [(.aload_n 0, 1)]) 1 [some (.inr (.inr x0)), some (.inl x1), some (.inl x2)] [.inr (.inr x0)] (by decide +kernel) rfl ?_
  refine s_gI fl_7_56 rfl (by decide +kernel) (fun v1 => ?_)
  refine s_if_ne (tgt := 17) (off := 13) (by decide +kernel) (by decide) (fun h2 => ?_) (fun h2 => ?_)
  · skip
    refine s_run (b := [(.aload_n 0, 1), (.iload_n 1, 1)]) 9 [some (.inr (.inr x0)), some (.inl x1), some (.inl x2)] [.inl x1, .inr (.inr x0)] (by decide +kernel) rfl ?_
    refine s_pI fl_7_56 (Or.inl rfl) rfl (by decide +kernel) (fun M3 => ?_)
    refine s_run (b := [(.aload_n 0, 1), (.iload_n 2, 1)]) 14 [some (.inr (.inr x0)), some (.inl x1), some (.inl x2)] [.inl x2, .inr (.inr x0)] (by decide +kernel) rfl ?_
    refine s_pI fl_7_32 (Or.inl rfl) rfl (by decide +kernel) (fun M4 => ?_)
    exact s_vret (by decide +kernel) rfl
  · skip
    exact s_vret (by decide +kernel) rfl
set_option maxRecDepth 20000 in
theorem c_X7_mark {l : Launch} {G : Gv} {M : Mem} {x0 : Nat} {x1 : Int32} {x2 : Int32} {z : Mem} (h : f_X7_mark M x0 x1 x2 = some z) : MetS l G Y_X7_mark [.inr (.inr x0), .inl x1, .inl x2] M none z :=
  met_of (ls0 := [some (.inr (.inr x0)), some (.inl x1), some (.inl x2)]) (by decide) rfl (lv_in (m := 0) rfl) (sl_le (Nat.le_of_ble_eq_true rfl)) (by rw [h]; rfl) (Or.inl ⟨rfl, rfl⟩) (S_X7_mark M x0 x1 x2)
def f_X7_canBe_J91 (M : Mem) (x2 : Int32) (x3 : Int32) (y0 : Int32) : Option (Int32) :=
  (if y0 = 0 then
    (aI M 0 1007 x2).bind fun v2 =>
    (if x3 < v2 then
      some (0 : Int32)
    else
      (aI M 0 1008 x2).bind fun v4 =>
      (if v4 < x3 then
        some (0 : Int32)
      else
        some (1 : Int32)))
  else
    some (0 : Int32))
set_option maxRecDepth 20000 in
theorem J_X7_canBe_91 {l : Launch} {G : Gv} {lim : Nat × Nat} (M : Mem) (x2 : Int32) (x3 : Int32) (y0 : Int32)  : Sim l G Y_X7_canBe lim (f_X7_canBe_J91 M x2 x3 y0) (fun z => some (some (.int z), M)) 91 [none, none, some (.inl x2), some (.inl x3), none] [.inl y0] M := by
  unfold f_X7_canBe_J91
  refine s_run (b := [(.istore 4, 2), (.iload 4, 2)]) 95 [none, none, some (.inl x2), some (.inl x3), some (.inl y0)] [.inl y0] (by decide +kernel) rfl ?_
  refine s_if_ne (tgt := 120) (off := 25) (by decide +kernel) (by decide) (fun h1 => ?_) (fun h1 => ?_)
  · skip
    refine s_run (b := [(.iload_n 3, 1)]) 99 [none, none, some (.inl x2), some (.inl x3), some (.inl y0)] [.inl x3] (by decide +kernel) rfl ?_
    refine s_gs (j := 7) (by decide) q639 (by decide +kernel) ?_
    change Sim l G Y_X7_canBe lim _ _ 102 [none, none, some (.inl x2), some (.inl x3), some (.inl y0)] [.inr (.inr 1007), .inl x3] M
    refine s_run (b := [(.iload_n 2, 1)]) 103 [none, none, some (.inl x2), some (.inl x3), some (.inl y0)] [.inl x2, .inr (.inr 1007), .inl x3] (by decide +kernel) rfl ?_
    refine s_ia (by decide +kernel) (fun v2 => ?_)
    refine s_ic_lt (tgt := 120) (off := 16) (by decide +kernel) (by decide) (fun h3 => ?_) (fun h3 => ?_)
    · skip
      refine s_run (b := [(.iconst 0, 1)]) 121 [none, none, some (.inl x2), some (.inl x3), some (.inl y0)] [.inl (0 : Int32)] (by decide +kernel) rfl ?_
      exact s_bret (Or.inl rfl) (by decide +kernel) rfl
    · skip
      refine s_run (b := [(.iload_n 3, 1)]) 108 [none, none, some (.inl x2), some (.inl x3), some (.inl y0)] [.inl x3] (by decide +kernel) rfl ?_
      refine s_gs (j := 8) (by decide) q641 (by decide +kernel) ?_
      change Sim l G Y_X7_canBe lim _ _ 111 [none, none, some (.inl x2), some (.inl x3), some (.inl y0)] [.inr (.inr 1008), .inl x3] M
      refine s_run (b := [(.iload_n 2, 1)]) 112 [none, none, some (.inl x2), some (.inl x3), some (.inl y0)] [.inl x2, .inr (.inr 1008), .inl x3] (by decide +kernel) rfl ?_
      refine s_ia (by decide +kernel) (fun v4 => ?_)
      refine s_ic_gt (tgt := 120) (off := 7) (by decide +kernel) (by decide) (fun h5 => ?_) (fun h5 => ?_)
      · skip
        refine s_run (b := [(.iconst 0, 1)]) 121 [none, none, some (.inl x2), some (.inl x3), some (.inl y0)] [.inl (0 : Int32)] (by decide +kernel) rfl ?_
        exact s_bret (Or.inl rfl) (by decide +kernel) rfl
      · skip
        refine s_run (b := [(.iconst 1, 1), (.goto 4, 3)]) 121 [none, none, some (.inl x2), some (.inl x3), some (.inl y0)] [.inl (1 : Int32)] (by decide +kernel) rfl ?_
        exact s_bret (Or.inr rfl) (by decide +kernel) rfl
  · skip
    refine s_run (b := [(.iconst 0, 1)]) 121 [none, none, some (.inl x2), some (.inl x3), some (.inl y0)] [.inl (0 : Int32)] (by decide +kernel) rfl ?_
    exact s_bret (Or.inl rfl) (by decide +kernel) rfl
def f_X7_canBe (M : Mem) (x0 : Nat) (x1 : Int32) (x2 : Int32) : Option (Int32) :=
  (gR M 7 x0 6).bind fun v1 =>
  (aI M 0 v1 x2).bind fun v2 =>
  (if (5 : Int32) ≤ x1 then
    (if x1 = (5 : Int32) then
      (aI M 0 1005 x2).bind fun v5 =>
      (if v2 < v5 then
        some (0 : Int32)
      else
        (aI M 0 1006 x2).bind fun v7 =>
        (if v7 < v2 then
          some (0 : Int32)
        else
          some (1 : Int32)))
    else
      (if x1 = (13 : Int32) then
        (if x2 = (1 : Int32) then
          (gR M 7 x0 6).bind fun v11 =>
          (aI M 0 v11 (0 : Int32)).bind fun v12 =>
          (if v2 = v12 then
            f_X7_canBe_J91 M x2 v2 (1 : Int32)
          else
            f_X7_canBe_J91 M x2 v2 (0 : Int32))
        else
          f_X7_canBe_J91 M x2 v2 (0 : Int32))
      else
        (aI M 0 1009 x1).bind fun v14 =>
        (if v14 < v2 then
          some (0 : Int32)
        else
          some (1 : Int32))))
  else
    (aI M 0 1003 x2).bind fun v16 =>
    (if v2 < v16 then
      some (0 : Int32)
    else
      (aI M 0 1004 x2).bind fun v18 =>
      (if v18 < v2 then
        some (0 : Int32)
      else
        some (1 : Int32))))
set_option maxRecDepth 20000 in
theorem S_X7_canBe {l : Launch} {G : Gv} {lim : Nat × Nat} (M : Mem) (x0 : Nat) (x1 : Int32) (x2 : Int32) : Sim l G Y_X7_canBe lim (f_X7_canBe M x0 x1 x2) (fun z => some (some (.int z), M)) 0 [some (.inr (.inr x0)), some (.inl x1), some (.inl x2), none, none] [] M := by
  unfold f_X7_canBe
  refine s_run (b := [(.aload_n 0, 1)]) 1 [some (.inr (.inr x0)), some (.inl x1), some (.inl x2), none, none] [.inr (.inr x0)] (by decide +kernel) rfl ?_
  refine s_gR fl_7_40 rfl (by decide +kernel) (fun v1 => ?_)
  refine s_run (b := [(.iload_n 2, 1)]) 5 [some (.inr (.inr x0)), some (.inl x1), some (.inl x2), none, none] [.inl x2, .inr (.inr v1)] (by decide +kernel) rfl ?_
  refine s_ia (by decide +kernel) (fun v2 => ?_)
  refine s_run (b := [(.istore_n 3, 1), (.iload_n 1, 1), (.iconst 5, 1)]) 9 [some (.inr (.inr x0)), some (.inl x1), some (.inl x2), some (.inl v2), none] [.inl (5 : Int32), .inl x1] (by decide +kernel) rfl ?_
  refine s_ic_ge (tgt := 36) (off := 27) (by decide +kernel) (by decide) (fun h3 => ?_) (fun h3 => ?_)
  · skip
    refine s_run (b := [(.iload_n 1, 1), (.iconst 5, 1)]) 38 [some (.inr (.inr x0)), some (.inl x1), some (.inl x2), some (.inl v2), none] [.inl (5 : Int32), .inl x1] (by decide +kernel) rfl ?_
    refine s_ic_ne (tgt := 65) (off := 27) (by decide +kernel) (by decide) (fun h4 => ?_) (fun h4 => ?_)
    · skip
      refine s_run (b := [(.iload_n 3, 1)]) 42 [some (.inr (.inr x0)), some (.inl x1), some (.inl x2), some (.inl v2), none] [.inl v2] (by decide +kernel) rfl ?_
      refine s_gs (j := 5) (by decide) q635 (by decide +kernel) ?_
      change Sim l G Y_X7_canBe lim _ _ 45 [some (.inr (.inr x0)), some (.inl x1), some (.inl x2), some (.inl v2), none] [.inr (.inr 1005), .inl v2] M
      refine s_run (b := [(.iload_n 2, 1)]) 46 [some (.inr (.inr x0)), some (.inl x1), some (.inl x2), some (.inl v2), none] [.inl x2, .inr (.inr 1005), .inl v2] (by decide +kernel) rfl ?_
      refine s_ia (by decide +kernel) (fun v5 => ?_)
      refine s_ic_lt (tgt := 63) (off := 16) (by decide +kernel) (by decide) (fun h6 => ?_) (fun h6 => ?_)
      · skip
        refine s_run (b := [(.iconst 0, 1)]) 64 [some (.inr (.inr x0)), some (.inl x1), some (.inl x2), some (.inl v2), none] [.inl (0 : Int32)] (by decide +kernel) rfl ?_
        exact s_bret (Or.inl rfl) (by decide +kernel) rfl
      · skip
        refine s_run (b := [(.iload_n 3, 1)]) 51 [some (.inr (.inr x0)), some (.inl x1), some (.inl x2), some (.inl v2), none] [.inl v2] (by decide +kernel) rfl ?_
        refine s_gs (j := 6) (by decide) q637 (by decide +kernel) ?_
        change Sim l G Y_X7_canBe lim _ _ 54 [some (.inr (.inr x0)), some (.inl x1), some (.inl x2), some (.inl v2), none] [.inr (.inr 1006), .inl v2] M
        refine s_run (b := [(.iload_n 2, 1)]) 55 [some (.inr (.inr x0)), some (.inl x1), some (.inl x2), some (.inl v2), none] [.inl x2, .inr (.inr 1006), .inl v2] (by decide +kernel) rfl ?_
        refine s_ia (by decide +kernel) (fun v7 => ?_)
        refine s_ic_gt (tgt := 63) (off := 7) (by decide +kernel) (by decide) (fun h8 => ?_) (fun h8 => ?_)
        · skip
          refine s_run (b := [(.iconst 0, 1)]) 64 [some (.inr (.inr x0)), some (.inl x1), some (.inl x2), some (.inl v2), none] [.inl (0 : Int32)] (by decide +kernel) rfl ?_
          exact s_bret (Or.inl rfl) (by decide +kernel) rfl
        · skip
          refine s_run (b := [(.iconst 1, 1), (.goto 4, 3)]) 64 [some (.inr (.inr x0)), some (.inl x1), some (.inl x2), some (.inl v2), none] [.inl (1 : Int32)] (by decide +kernel) rfl ?_
          exact s_bret (Or.inr rfl) (by decide +kernel) rfl
    · skip
      refine s_run (b := [(.iload_n 1, 1), (.bipush 13, 2)]) 68 [some (.inr (.inr x0)), some (.inl x1), some (.inl x2), some (.inl v2), none] [.inl (13 : Int32), .inl x1] (by decide +kernel) rfl ?_
      refine s_ic_ne (tgt := 122) (off := 54) (by decide +kernel) (by decide) (fun h9 => ?_) (fun h9 => ?_)
      · skip
        refine s_run (b := [(.iload_n 2, 1), (.iconst 1, 1)]) 73 [some (.inr (.inr x0)), some (.inl x1), some (.inl x2), some (.inl v2), none] [.inl (1 : Int32), .inl x2] (by decide +kernel) rfl ?_
        refine s_ic_ne (tgt := 90) (off := 17) (by decide +kernel) (by decide) (fun h10 => ?_) (fun h10 => ?_)
        · skip
          refine s_run (b := [(.iload_n 3, 1), (.aload_n 0, 1)]) 78 [some (.inr (.inr x0)), some (.inl x1), some (.inl x2), some (.inl v2), none] [.inr (.inr x0), .inl v2] (by decide +kernel) rfl ?_
          refine s_gR fl_7_40 rfl (by decide +kernel) (fun v11 => ?_)
          refine s_run (b := [(.iconst 0, 1)]) 82 [some (.inr (.inr x0)), some (.inl x1), some (.inl x2), some (.inl v2), none] [.inl (0 : Int32), .inr (.inr v11), .inl v2] (by decide +kernel) rfl ?_
          refine s_ia (by decide +kernel) (fun v12 => ?_)
          refine s_ic_ne (tgt := 90) (off := 7) (by decide +kernel) (by decide) (fun h13 => ?_) (fun h13 => ?_)
          · skip
            refine s_run (b := [(.iconst 1, 1), (.goto 4, 3)]) 91 [some (.inr (.inr x0)), some (.inl x1), some (.inl x2), some (.inl v2), none] [.inl (1 : Int32)] (by decide +kernel) rfl ?_
            exact s_lsub (ls' := [none, none, some (.inl x2), some (.inl v2), none]) ⟨rfl, ⟨rfl, trivial⟩⟩ (J_X7_canBe_91 M x2 v2 (1 : Int32))
          · skip
            refine s_run (b := [(.iconst 0, 1)]) 91 [some (.inr (.inr x0)), some (.inl x1), some (.inl x2), some (.inl v2), none] [.inl (0 : Int32)] (by decide +kernel) rfl ?_
            exact s_lsub (ls' := [none, none, some (.inl x2), some (.inl v2), none]) ⟨rfl, ⟨rfl, trivial⟩⟩ (J_X7_canBe_91 M x2 v2 (0 : Int32))
        · skip
          refine s_run (b := [(.iconst 0, 1)]) 91 [some (.inr (.inr x0)), some (.inl x1), some (.inl x2), some (.inl v2), none] [.inl (0 : Int32)] (by decide +kernel) rfl ?_
          exact s_lsub (ls' := [none, none, some (.inl x2), some (.inl v2), none]) ⟨rfl, ⟨rfl, trivial⟩⟩ (J_X7_canBe_91 M x2 v2 (0 : Int32))
      · skip
        refine s_run (b := [(.iload_n 3, 1)]) 123 [some (.inr (.inr x0)), some (.inl x1), some (.inl x2), some (.inl v2), none] [.inl v2] (by decide +kernel) rfl ?_
        refine s_gs (j := 9) (by decide) q643 (by decide +kernel) ?_
        change Sim l G Y_X7_canBe lim _ _ 126 [some (.inr (.inr x0)), some (.inl x1), some (.inl x2), some (.inl v2), none] [.inr (.inr 1009), .inl v2] M
        refine s_run (b := [(.iload_n 1, 1)]) 127 [some (.inr (.inr x0)), some (.inl x1), some (.inl x2), some (.inl v2), none] [.inl x1, .inr (.inr 1009), .inl v2] (by decide +kernel) rfl ?_
        refine s_ia (by decide +kernel) (fun v14 => ?_)
        refine s_ic_gt (tgt := 135) (off := 7) (by decide +kernel) (by decide) (fun h15 => ?_) (fun h15 => ?_)
        · skip
          refine s_run (b := [(.iconst 0, 1)]) 136 [some (.inr (.inr x0)), some (.inl x1), some (.inl x2), some (.inl v2), none] [.inl (0 : Int32)] (by decide +kernel) rfl ?_
          exact s_bret (Or.inl rfl) (by decide +kernel) rfl
        · skip
          refine s_run (b := [(.iconst 1, 1), (.goto 4, 3)]) 136 [some (.inr (.inr x0)), some (.inl x1), some (.inl x2), some (.inl v2), none] [.inl (1 : Int32)] (by decide +kernel) rfl ?_
          exact s_bret (Or.inr rfl) (by decide +kernel) rfl
  · skip
    refine s_run (b := [(.iload_n 3, 1)]) 13 [some (.inr (.inr x0)), some (.inl x1), some (.inl x2), some (.inl v2), none] [.inl v2] (by decide +kernel) rfl ?_
    refine s_gs (j := 3) (by decide) q631 (by decide +kernel) ?_
    change Sim l G Y_X7_canBe lim _ _ 16 [some (.inr (.inr x0)), some (.inl x1), some (.inl x2), some (.inl v2), none] [.inr (.inr 1003), .inl v2] M
    refine s_run (b := [(.iload_n 2, 1)]) 17 [some (.inr (.inr x0)), some (.inl x1), some (.inl x2), some (.inl v2), none] [.inl x2, .inr (.inr 1003), .inl v2] (by decide +kernel) rfl ?_
    refine s_ia (by decide +kernel) (fun v16 => ?_)
    refine s_ic_lt (tgt := 34) (off := 16) (by decide +kernel) (by decide) (fun h17 => ?_) (fun h17 => ?_)
    · skip
      refine s_run (b := [(.iconst 0, 1)]) 35 [some (.inr (.inr x0)), some (.inl x1), some (.inl x2), some (.inl v2), none] [.inl (0 : Int32)] (by decide +kernel) rfl ?_
      exact s_bret (Or.inl rfl) (by decide +kernel) rfl
    · skip
      refine s_run (b := [(.iload_n 3, 1)]) 22 [some (.inr (.inr x0)), some (.inl x1), some (.inl x2), some (.inl v2), none] [.inl v2] (by decide +kernel) rfl ?_
      refine s_gs (j := 4) (by decide) q633 (by decide +kernel) ?_
      change Sim l G Y_X7_canBe lim _ _ 25 [some (.inr (.inr x0)), some (.inl x1), some (.inl x2), some (.inl v2), none] [.inr (.inr 1004), .inl v2] M
      refine s_run (b := [(.iload_n 2, 1)]) 26 [some (.inr (.inr x0)), some (.inl x1), some (.inl x2), some (.inl v2), none] [.inl x2, .inr (.inr 1004), .inl v2] (by decide +kernel) rfl ?_
      refine s_ia (by decide +kernel) (fun v18 => ?_)
      refine s_ic_gt (tgt := 34) (off := 7) (by decide +kernel) (by decide) (fun h19 => ?_) (fun h19 => ?_)
      · skip
        refine s_run (b := [(.iconst 0, 1)]) 35 [some (.inr (.inr x0)), some (.inl x1), some (.inl x2), some (.inl v2), none] [.inl (0 : Int32)] (by decide +kernel) rfl ?_
        exact s_bret (Or.inl rfl) (by decide +kernel) rfl
      · skip
        refine s_run (b := [(.iconst 1, 1), (.goto 4, 3)]) 35 [some (.inr (.inr x0)), some (.inl x1), some (.inl x2), some (.inl v2), none] [.inl (1 : Int32)] (by decide +kernel) rfl ?_
        exact s_bret (Or.inr rfl) (by decide +kernel) rfl
set_option maxRecDepth 20000 in
theorem c_X7_canBe {l : Launch} {G : Gv} {M : Mem} {x0 : Nat} {x1 : Int32} {x2 : Int32} {z : Int32} (h : f_X7_canBe M x0 x1 x2 = some z) : MetS l G Y_X7_canBe [.inr (.inr x0), .inl x1, .inl x2] M (some (.int z)) M :=
  met_of (ls0 := [some (.inr (.inr x0)), some (.inl x1), some (.inl x2), none, none]) (by decide) rfl (lv_in (m := 2) rfl) (sl_le (Nat.le_of_ble_eq_true rfl)) (by rw [h]; rfl) (Or.inl ⟨rfl, rfl⟩) (S_X7_canBe M x0 x1 x2)
def f_X7_isFull (M : Mem) (x0 : Nat) (x1 : Int32) : Option (Int32) :=
  (if (5 : Int32) ≤ x1 then
    (if x1 = (5 : Int32) then
      (gR M 7 x0 0).bind fun v3 =>
      (gI M 5 v3 1).bind fun v4 =>
      (if v4 < (10 : Int32) then
        some (0 : Int32)
      else
        some (1 : Int32))
    else
      (aI M 0 1001 (1 : Int32)).bind fun v6 =>
      (if v6 ≤ x1 then
        (aI M 0 1001 (2 : Int32)).bind fun v8 =>
        (if v8 ≤ x1 then
          (gR M 7 x0 2).bind fun v10 =>
          (gI M 4 v10 0).bind fun v11 =>
          (if v11 < (8 : Int32) then
            some (0 : Int32)
          else
            some (1 : Int32))
        else
          (gR M 7 x0 1).bind fun v13 =>
          (gI M 1 v13 0).bind fun v14 =>
          (if v14 < (40 : Int32) then
            some (0 : Int32)
          else
            some (1 : Int32)))
      else
        some (0 : Int32)))
  else
    (gR M 7 x0 0).bind fun v16 =>
    (gI M 5 v16 0).bind fun v17 =>
    (if v17 < (8 : Int32) then
      some (0 : Int32)
    else
      some (1 : Int32)))
set_option maxRecDepth 20000 in
theorem S_X7_isFull {l : Launch} {G : Gv} {lim : Nat × Nat} (M : Mem) (x0 : Nat) (x1 : Int32) : Sim l G Y_X7_isFull lim (f_X7_isFull M x0 x1) (fun z => some (some (.int z), M)) 0 [some (.inr (.inr x0)), some (.inl x1)] [] M := by
  unfold f_X7_isFull
  refine s_run (b := [(.iload_n 1, 1), (.iconst 5, 1)]) 2 [some (.inr (.inr x0)), some (.inl x1)] [.inl (5 : Int32), .inl x1] (by decide +kernel) rfl ?_
  refine s_ic_ge (tgt := 23) (off := 21) (by decide +kernel) (by decide) (fun h1 => ?_) (fun h1 => ?_)
  · skip
    refine s_run (b := [(.iload_n 1, 1), (.iconst 5, 1)]) 25 [some (.inr (.inr x0)), some (.inl x1)] [.inl (5 : Int32), .inl x1] (by decide +kernel) rfl ?_
    refine s_ic_ne (tgt := 46) (off := 21) (by decide +kernel) (by decide) (fun h2 => ?_) (fun h2 => ?_)
    · skip
      refine s_run (b := [(.aload_n 0, 1)]) 29 [some (.inr (.inr x0)), some (.inl x1)] [.inr (.inr x0)] (by decide +kernel) rfl ?_
      refine s_gR fl_7_12 rfl (by decide +kernel) (fun v3 => ?_)
      refine s_gI fl_7_113 rfl (by decide +kernel) (fun v4 => ?_)
      refine s_run (b := [(.bipush 10, 2)]) 37 [some (.inr (.inr x0)), some (.inl x1)] [.inl (10 : Int32), .inl v4] (by decide +kernel) rfl ?_
      refine s_ic_lt (tgt := 44) (off := 7) (by decide +kernel) (by decide) (fun h5 => ?_) (fun h5 => ?_)
      · skip
        refine s_run (b := [(.iconst 0, 1)]) 45 [some (.inr (.inr x0)), some (.inl x1)] [.inl (0 : Int32)] (by decide +kernel) rfl ?_
        exact s_bret (Or.inl rfl) (by decide +kernel) rfl
      · skip
        refine s_run (b := [(.iconst 1, 1), (.goto 4, 3)]) 45 [some (.inr (.inr x0)), some (.inl x1)] [.inl (1 : Int32)] (by decide +kernel) rfl ?_
        exact s_bret (Or.inr rfl) (by decide +kernel) rfl
    · skip
      refine s_run (b := [(.iload_n 1, 1)]) 47 [some (.inr (.inr x0)), some (.inl x1)] [.inl x1] (by decide +kernel) rfl ?_
      refine s_gs (j := 1) (by decide) q545 (by decide +kernel) ?_
      change Sim l G Y_X7_isFull lim _ _ 50 [some (.inr (.inr x0)), some (.inl x1)] [.inr (.inr 1001), .inl x1] M
      refine s_run (b := [(.iconst 1, 1)]) 51 [some (.inr (.inr x0)), some (.inl x1)] [.inl (1 : Int32), .inr (.inr 1001), .inl x1] (by decide +kernel) rfl ?_
      refine s_ia (by decide +kernel) (fun v6 => ?_)
      refine s_ic_ge (tgt := 57) (off := 5) (by decide +kernel) (by decide) (fun h7 => ?_) (fun h7 => ?_)
      · skip
        refine s_run (b := [(.iload_n 1, 1)]) 58 [some (.inr (.inr x0)), some (.inl x1)] [.inl x1] (by decide +kernel) rfl ?_
        refine s_gs (j := 1) (by decide) q545 (by decide +kernel) ?_
        change Sim l G Y_X7_isFull lim _ _ 61 [some (.inr (.inr x0)), some (.inl x1)] [.inr (.inr 1001), .inl x1] M
        refine s_run (b := [(.iconst 2, 1)]) 62 [some (.inr (.inr x0)), some (.inl x1)] [.inl (2 : Int32), .inr (.inr 1001), .inl x1] (by decide +kernel) rfl ?_
        refine s_ia (by decide +kernel) (fun v8 => ?_)
        refine s_ic_ge (tgt := 86) (off := 23) (by decide +kernel) (by decide) (fun h9 => ?_) (fun h9 => ?_)
        · skip
          refine s_run (b := [(.aload_n 0, 1)]) 87 [some (.inr (.inr x0)), some (.inl x1)] [.inr (.inr x0)] (by decide +kernel) rfl ?_
          refine s_gR fl_7_28 rfl (by decide +kernel) (fun v10 => ?_)
          refine s_gI fl_7_65 rfl (by decide +kernel) (fun v11 => ?_)
          refine s_run (b := [(.bipush 8, 2)]) 95 [some (.inr (.inr x0)), some (.inl x1)] [.inl (8 : Int32), .inl v11] (by decide +kernel) rfl ?_
          refine s_ic_lt (tgt := 102) (off := 7) (by decide +kernel) (by decide) (fun h12 => ?_) (fun h12 => ?_)
          · skip
            refine s_run (b := [(.iconst 0, 1)]) 103 [some (.inr (.inr x0)), some (.inl x1)] [.inl (0 : Int32)] (by decide +kernel) rfl ?_
            exact s_bret (Or.inl rfl) (by decide +kernel) rfl
          · skip
            refine s_run (b := [(.iconst 1, 1), (.goto 4, 3)]) 103 [some (.inr (.inr x0)), some (.inl x1)] [.inl (1 : Int32)] (by decide +kernel) rfl ?_
            exact s_bret (Or.inr rfl) (by decide +kernel) rfl
        · skip
          refine s_run (b := [(.aload_n 0, 1)]) 67 [some (.inr (.inr x0)), some (.inl x1)] [.inr (.inr x0)] (by decide +kernel) rfl ?_
          refine s_gR fl_7_21 rfl (by decide +kernel) (fun v13 => ?_)
          refine s_gI fl_7_62 rfl (by decide +kernel) (fun v14 => ?_)
          refine s_run (b := [(.bipush 40, 2)]) 75 [some (.inr (.inr x0)), some (.inl x1)] [.inl (40 : Int32), .inl v14] (by decide +kernel) rfl ?_
          refine s_ic_lt (tgt := 82) (off := 7) (by decide +kernel) (by decide) (fun h15 => ?_) (fun h15 => ?_)
          · skip
            refine s_run (b := [(.iconst 0, 1), (.goto 20, 3)]) 103 [some (.inr (.inr x0)), some (.inl x1)] [.inl (0 : Int32)] (by decide +kernel) rfl ?_
            exact s_bret (Or.inl rfl) (by decide +kernel) rfl
          · skip
            refine s_run (b := [(.iconst 1, 1), (.goto 24, 3)]) 103 [some (.inr (.inr x0)), some (.inl x1)] [.inl (1 : Int32)] (by decide +kernel) rfl ?_
            exact s_bret (Or.inr rfl) (by decide +kernel) rfl
      · skip
        refine s_run (b := [(.iconst 0, 1)]) 56 [some (.inr (.inr x0)), some (.inl x1)] [.inl (0 : Int32)] (by decide +kernel) rfl ?_
        exact s_bret (Or.inl rfl) (by decide +kernel) rfl
  · skip
    refine s_run (b := [(.aload_n 0, 1)]) 6 [some (.inr (.inr x0)), some (.inl x1)] [.inr (.inr x0)] (by decide +kernel) rfl ?_
    refine s_gR fl_7_12 rfl (by decide +kernel) (fun v16 => ?_)
    refine s_gI fl_7_110 rfl (by decide +kernel) (fun v17 => ?_)
    refine s_run (b := [(.bipush 8, 2)]) 14 [some (.inr (.inr x0)), some (.inl x1)] [.inl (8 : Int32), .inl v17] (by decide +kernel) rfl ?_
    refine s_ic_lt (tgt := 21) (off := 7) (by decide +kernel) (by decide) (fun h18 => ?_) (fun h18 => ?_)
    · skip
      refine s_run (b := [(.iconst 0, 1)]) 22 [some (.inr (.inr x0)), some (.inl x1)] [.inl (0 : Int32)] (by decide +kernel) rfl ?_
      exact s_bret (Or.inl rfl) (by decide +kernel) rfl
    · skip
      refine s_run (b := [(.iconst 1, 1), (.goto 4, 3)]) 22 [some (.inr (.inr x0)), some (.inl x1)] [.inl (1 : Int32)] (by decide +kernel) rfl ?_
      exact s_bret (Or.inr rfl) (by decide +kernel) rfl
set_option maxRecDepth 20000 in
theorem c_X7_isFull {l : Launch} {G : Gv} {M : Mem} {x0 : Nat} {x1 : Int32} {z : Int32} (h : f_X7_isFull M x0 x1 = some z) : MetS l G Y_X7_isFull [.inr (.inr x0), .inl x1] M (some (.int z)) M :=
  met_of (ls0 := [some (.inr (.inr x0)), some (.inl x1)]) (by decide) rfl (lv_in (m := 0) rfl) (sl_le (Nat.le_of_ble_eq_true rfl)) (by rw [h]; rfl) (Or.inl ⟨rfl, rfl⟩) (S_X7_isFull M x0 x1)
def f_X1_add (M : Mem) (x0 : Nat) (x1 : Int32) (x2 : Int32) : Option (Mem) :=
  (gI M 1 x0 0).bind fun v1 =>
  (if v1 < (40 : Int32) then
    (gR M 1 x0 1).bind fun v3 =>
    (gI M 1 x0 0).bind fun v4 =>
    (sI M 0 v3 v4 x1).bind fun M5 =>
    (gR M5 1 x0 2).bind fun v6 =>
    (gI M5 1 x0 0).bind fun v7 =>
    (sI M5 0 v6 v7 x2).bind fun M8 =>
    (gI M8 1 x0 0).bind fun v9 =>
    (pI M8 1 x0 0 (v9 + (1 : Int32))).bind fun M10 =>
    some M10
  else
    some M)
set_option maxRecDepth 20000 in
theorem S_X1_add {l : Launch} {G : Gv} {lim : Nat × Nat} (M : Mem) (x0 : Nat) (x1 : Int32) (x2 : Int32) : Sim l G Y_X1_add lim (f_X1_add M x0 x1 x2) (fun z => some (none, z)) 0 [some (.inr (.inr x0)), some (.inl x1), some (.inl x2)] [] M := by
  unfold f_X1_add
  refine s_run (b := [(.aload_n 0, 1)]) 1 [some (.inr (.inr x0)), some (.inl x1), some (.inl x2)] [.inr (.inr x0)] (by decide +kernel) rfl ?_
  refine s_gI fl_1_18 rfl (by decide +kernel) (fun v1 => ?_)
  refine s_run (b := [(.bipush 40, 2)]) 6 [some (.inr (.inr x0)), some (.inl x1), some (.inl x2)] [.inl (40 : Int32), .inl v1] (by decide +kernel) rfl ?_
  refine s_ic_lt (tgt := 10) (off := 4) (by decide +kernel) (by decide) (fun h2 => ?_) (fun h2 => ?_)
  · skip
    refine s_run (b := [(.aload_n 0, 1)]) 11 [some (.inr (.inr x0)), some (.inl x1), some (.inl x2)] [.inr (.inr x0)] (by decide +kernel) rfl ?_
    refine s_gR fl_1_9 rfl (by decide +kernel) (fun v3 => ?_)
    refine s_run (b := [(.aload_n 0, 1)]) 15 [some (.inr (.inr x0)), some (.inl x1), some (.inl x2)] [.inr (.inr x0), .inr (.inr v3)] (by decide +kernel) rfl ?_
    refine s_gI fl_1_18 rfl (by decide +kernel) (fun v4 => ?_)
    refine s_run (b := [(.iload_n 1, 1)]) 19 [some (.inr (.inr x0)), some (.inl x1), some (.inl x2)] [.inl x1, .inl v4, .inr (.inr v3)] (by decide +kernel) rfl ?_
    refine s_is (by decide +kernel) (fun M5 => ?_)
    refine s_run (b := [(.aload_n 0, 1)]) 21 [some (.inr (.inr x0)), some (.inl x1), some (.inl x2)] [.inr (.inr x0)] (by decide +kernel) rfl ?_
    refine s_gR fl_1_15 rfl (by decide +kernel) (fun v6 => ?_)
    refine s_run (b := [(.aload_n 0, 1)]) 25 [some (.inr (.inr x0)), some (.inl x1), some (.inl x2)] [.inr (.inr x0), .inr (.inr v6)] (by decide +kernel) rfl ?_
    refine s_gI fl_1_18 rfl (by decide +kernel) (fun v7 => ?_)
    refine s_run (b := [(.iload_n 2, 1)]) 29 [some (.inr (.inr x0)), some (.inl x1), some (.inl x2)] [.inl x2, .inl v7, .inr (.inr v6)] (by decide +kernel) rfl ?_
    refine s_is (by decide +kernel) (fun M8 => ?_)
    refine s_run (b := [(.aload_n 0, 1), (.dup, 1)]) 32 [some (.inr (.inr x0)), some (.inl x1), some (.inl x2)] [.inr (.inr x0), .inr (.inr x0)] (by decide +kernel) rfl ?_
    refine s_gI fl_1_18 rfl (by decide +kernel) (fun v9 => ?_)
    refine s_run (b := [(.iconst 1, 1), (.iadd, 1)]) 37 [some (.inr (.inr x0)), some (.inl x1), some (.inl x2)] [.inl (v9 + (1 : Int32)), .inr (.inr x0)] (by decide +kernel) rfl ?_
    refine s_pI fl_1_18 (Or.inl rfl) rfl (by decide +kernel) (fun M10 => ?_)
    exact s_vret (by decide +kernel) rfl
  · skip
    exact s_vret (by decide +kernel) rfl
set_option maxRecDepth 20000 in
theorem c_X1_add {l : Launch} {G : Gv} {M : Mem} {x0 : Nat} {x1 : Int32} {x2 : Int32} {z : Mem} (h : f_X1_add M x0 x1 x2 = some z) : MetS l G Y_X1_add [.inr (.inr x0), .inl x1, .inl x2] M none z :=
  met_of (ls0 := [some (.inr (.inr x0)), some (.inl x1), some (.inl x2)]) (by decide) rfl (lv_in (m := 0) rfl) (sl_le (Nat.le_of_ble_eq_true rfl)) (by rw [h]; rfl) (Or.inl ⟨rfl, rfl⟩) (S_X1_add M x0 x1 x2)
def f_X4_add (M : Mem) (x0 : Nat) (x1 : Int32) (x2 : Int32) (x3 : Int32) : Option (Mem) :=
  (gI M 4 x0 0).bind fun v1 =>
  (if v1 < (8 : Int32) then
    (gR M 4 x0 1).bind fun v3 =>
    (gI M 4 x0 0).bind fun v4 =>
    (sI M 0 v3 v4 x1).bind fun M5 =>
    (gR M5 4 x0 2).bind fun v6 =>
    (gI M5 4 x0 0).bind fun v7 =>
    (sI M5 0 v6 v7 x2).bind fun M8 =>
    (gR M8 4 x0 3).bind fun v9 =>
    (gI M8 4 x0 0).bind fun v10 =>
    (sI M8 0 v9 v10 x3).bind fun M11 =>
    (gI M11 4 x0 0).bind fun v12 =>
    (pI M11 4 x0 0 (v12 + (1 : Int32))).bind fun M13 =>
    some M13
  else
    some M)
set_option maxRecDepth 20000 in
theorem S_X4_add {l : Launch} {G : Gv} {lim : Nat × Nat} (M : Mem) (x0 : Nat) (x1 : Int32) (x2 : Int32) (x3 : Int32) : Sim l G Y_X4_add lim (f_X4_add M x0 x1 x2 x3) (fun z => some (none, z)) 0 [some (.inr (.inr x0)), some (.inl x1), some (.inl x2), some (.inl x3)] [] M := by
  unfold f_X4_add
  refine s_run (b := [(.aload_n 0, 1)]) 1 [some (.inr (.inr x0)), some (.inl x1), some (.inl x2), some (.inl x3)] [.inr (.inr x0)] (by decide +kernel) rfl ?_
  refine s_gI fl_4_21 rfl (by decide +kernel) (fun v1 => ?_)
  refine s_run (b := [(.bipush 8, 2)]) 6 [some (.inr (.inr x0)), some (.inl x1), some (.inl x2), some (.inl x3)] [.inl (8 : Int32), .inl v1] (by decide +kernel) rfl ?_
  refine s_ic_lt (tgt := 10) (off := 4) (by decide +kernel) (by decide) (fun h2 => ?_) (fun h2 => ?_)
  · skip
    refine s_run (b := [(.aload_n 0, 1)]) 11 [some (.inr (.inr x0)), some (.inl x1), some (.inl x2), some (.inl x3)] [.inr (.inr x0)] (by decide +kernel) rfl ?_
    refine s_gR fl_4_9 rfl (by decide +kernel) (fun v3 => ?_)
    refine s_run (b := [(.aload_n 0, 1)]) 15 [some (.inr (.inr x0)), some (.inl x1), some (.inl x2), some (.inl x3)] [.inr (.inr x0), .inr (.inr v3)] (by decide +kernel) rfl ?_
    refine s_gI fl_4_21 rfl (by decide +kernel) (fun v4 => ?_)
    refine s_run (b := [(.iload_n 1, 1)]) 19 [some (.inr (.inr x0)), some (.inl x1), some (.inl x2), some (.inl x3)] [.inl x1, .inl v4, .inr (.inr v3)] (by decide +kernel) rfl ?_
    refine s_is (by decide +kernel) (fun M5 => ?_)
    refine s_run (b := [(.aload_n 0, 1)]) 21 [some (.inr (.inr x0)), some (.inl x1), some (.inl x2), some (.inl x3)] [.inr (.inr x0)] (by decide +kernel) rfl ?_
    refine s_gR fl_4_15 rfl (by decide +kernel) (fun v6 => ?_)
    refine s_run (b := [(.aload_n 0, 1)]) 25 [some (.inr (.inr x0)), some (.inl x1), some (.inl x2), some (.inl x3)] [.inr (.inr x0), .inr (.inr v6)] (by decide +kernel) rfl ?_
    refine s_gI fl_4_21 rfl (by decide +kernel) (fun v7 => ?_)
    refine s_run (b := [(.iload_n 2, 1)]) 29 [some (.inr (.inr x0)), some (.inl x1), some (.inl x2), some (.inl x3)] [.inl x2, .inl v7, .inr (.inr v6)] (by decide +kernel) rfl ?_
    refine s_is (by decide +kernel) (fun M8 => ?_)
    refine s_run (b := [(.aload_n 0, 1)]) 31 [some (.inr (.inr x0)), some (.inl x1), some (.inl x2), some (.inl x3)] [.inr (.inr x0)] (by decide +kernel) rfl ?_
    refine s_gR fl_4_18 rfl (by decide +kernel) (fun v9 => ?_)
    refine s_run (b := [(.aload_n 0, 1)]) 35 [some (.inr (.inr x0)), some (.inl x1), some (.inl x2), some (.inl x3)] [.inr (.inr x0), .inr (.inr v9)] (by decide +kernel) rfl ?_
    refine s_gI fl_4_21 rfl (by decide +kernel) (fun v10 => ?_)
    refine s_run (b := [(.iload_n 3, 1)]) 39 [some (.inr (.inr x0)), some (.inl x1), some (.inl x2), some (.inl x3)] [.inl x3, .inl v10, .inr (.inr v9)] (by decide +kernel) rfl ?_
    refine s_is (by decide +kernel) (fun M11 => ?_)
    refine s_run (b := [(.aload_n 0, 1), (.dup, 1)]) 42 [some (.inr (.inr x0)), some (.inl x1), some (.inl x2), some (.inl x3)] [.inr (.inr x0), .inr (.inr x0)] (by decide +kernel) rfl ?_
    refine s_gI fl_4_21 rfl (by decide +kernel) (fun v12 => ?_)
    refine s_run (b := [(.iconst 1, 1), (.iadd, 1)]) 47 [some (.inr (.inr x0)), some (.inl x1), some (.inl x2), some (.inl x3)] [.inl (v12 + (1 : Int32)), .inr (.inr x0)] (by decide +kernel) rfl ?_
    refine s_pI fl_4_21 (Or.inl rfl) rfl (by decide +kernel) (fun M13 => ?_)
    exact s_vret (by decide +kernel) rfl
  · skip
    exact s_vret (by decide +kernel) rfl
set_option maxRecDepth 20000 in
theorem c_X4_add {l : Launch} {G : Gv} {M : Mem} {x0 : Nat} {x1 : Int32} {x2 : Int32} {x3 : Int32} {z : Mem} (h : f_X4_add M x0 x1 x2 x3 = some z) : MetS l G Y_X4_add [.inr (.inr x0), .inl x1, .inl x2, .inl x3] M none z :=
  met_of (ls0 := [some (.inr (.inr x0)), some (.inl x1), some (.inl x2), some (.inl x3)]) (by decide) rfl (lv_in (m := 0) rfl) (sl_le (Nat.le_of_ble_eq_true rfl)) (by rw [h]; rfl) (Or.inl ⟨rfl, rfl⟩) (S_X4_add M x0 x1 x2 x3)
def f_X5_addCall (M : Mem) (x0 : Nat) (x1 : Nat) : Option (Mem) :=
  (gI M 5 x0 1).bind fun v1 =>
  (if v1 < (10 : Int32) then
    (gR M 5 x0 10).bind fun v3 =>
    (gI M 5 x0 1).bind fun v4 =>
    (aI M 0 x1 (0 : Int32)).bind fun v5 =>
    (sI M 0 v3 v4 v5).bind fun M6 =>
    (gR M6 5 x0 11).bind fun v7 =>
    (gI M6 5 x0 1).bind fun v8 =>
    (aI M6 0 x1 (1 : Int32)).bind fun v9 =>
    (sI M6 0 v7 v8 v9).bind fun M10 =>
    (gR M10 5 x0 12).bind fun v11 =>
    (gI M10 5 x0 1).bind fun v12 =>
    (aI M10 0 x1 (2 : Int32)).bind fun v13 =>
    (sI M10 0 v11 v12 v13).bind fun M14 =>
    (gI M14 5 x0 1).bind fun v15 =>
    (pI M14 5 x0 1 (v15 + (1 : Int32))).bind fun M16 =>
    some M16
  else
    some M)
set_option maxRecDepth 20000 in
theorem S_X5_addCall {l : Launch} {G : Gv} {lim : Nat × Nat} (M : Mem) (x0 : Nat) (x1 : Nat) : Sim l G Y_X5_addCall lim (f_X5_addCall M x0 x1) (fun z => some (none, z)) 0 [some (.inr (.inr x0)), some (.inr (.inr x1))] [] M := by
  unfold f_X5_addCall
  refine s_run (b := [(.aload_n 0, 1)]) 1 [some (.inr (.inr x0)), some (.inr (.inr x1))] [.inr (.inr x0)] (by decide +kernel) rfl ?_
  refine s_gI fl_5_49 rfl (by decide +kernel) (fun v1 => ?_)
  refine s_run (b := [(.bipush 10, 2)]) 6 [some (.inr (.inr x0)), some (.inr (.inr x1))] [.inl (10 : Int32), .inl v1] (by decide +kernel) rfl ?_
  refine s_ic_lt (tgt := 10) (off := 4) (by decide +kernel) (by decide) (fun h2 => ?_) (fun h2 => ?_)
  · skip
    refine s_run (b := [(.aload_n 0, 1)]) 11 [some (.inr (.inr x0)), some (.inr (.inr x1))] [.inr (.inr x0)] (by decide +kernel) rfl ?_
    refine s_gR fl_5_27 rfl (by decide +kernel) (fun v3 => ?_)
    refine s_run (b := [(.aload_n 0, 1)]) 15 [some (.inr (.inr x0)), some (.inr (.inr x1))] [.inr (.inr x0), .inr (.inr v3)] (by decide +kernel) rfl ?_
    refine s_gI fl_5_49 rfl (by decide +kernel) (fun v4 => ?_)
    refine s_run (b := [(.aload_n 1, 1), (.iconst 0, 1)]) 20 [some (.inr (.inr x0)), some (.inr (.inr x1))] [.inl (0 : Int32), .inr (.inr x1), .inl v4, .inr (.inr v3)] (by decide +kernel) rfl ?_
    refine s_ia (by decide +kernel) (fun v5 => ?_)
    refine s_is (by decide +kernel) (fun M6 => ?_)
    refine s_run (b := [(.aload_n 0, 1)]) 23 [some (.inr (.inr x0)), some (.inr (.inr x1))] [.inr (.inr x0)] (by decide +kernel) rfl ?_
    refine s_gR fl_5_30 rfl (by decide +kernel) (fun v7 => ?_)
    refine s_run (b := [(.aload_n 0, 1)]) 27 [some (.inr (.inr x0)), some (.inr (.inr x1))] [.inr (.inr x0), .inr (.inr v7)] (by decide +kernel) rfl ?_
    refine s_gI fl_5_49 rfl (by decide +kernel) (fun v8 => ?_)
    refine s_run (b := [(.aload_n 1, 1), (.iconst 1, 1)]) 32 [some (.inr (.inr x0)), some (.inr (.inr x1))] [.inl (1 : Int32), .inr (.inr x1), .inl v8, .inr (.inr v7)] (by decide +kernel) rfl ?_
    refine s_ia (by decide +kernel) (fun v9 => ?_)
    refine s_is (by decide +kernel) (fun M10 => ?_)
    refine s_run (b := [(.aload_n 0, 1)]) 35 [some (.inr (.inr x0)), some (.inr (.inr x1))] [.inr (.inr x0)] (by decide +kernel) rfl ?_
    refine s_gR fl_5_33 rfl (by decide +kernel) (fun v11 => ?_)
    refine s_run (b := [(.aload_n 0, 1)]) 39 [some (.inr (.inr x0)), some (.inr (.inr x1))] [.inr (.inr x0), .inr (.inr v11)] (by decide +kernel) rfl ?_
    refine s_gI fl_5_49 rfl (by decide +kernel) (fun v12 => ?_)
    refine s_run (b := [(.aload_n 1, 1), (.iconst 2, 1)]) 44 [some (.inr (.inr x0)), some (.inr (.inr x1))] [.inl (2 : Int32), .inr (.inr x1), .inl v12, .inr (.inr v11)] (by decide +kernel) rfl ?_
    refine s_ia (by decide +kernel) (fun v13 => ?_)
    refine s_is (by decide +kernel) (fun M14 => ?_)
    refine s_run (b := [(.aload_n 0, 1), (.dup, 1)]) 48 [some (.inr (.inr x0)), some (.inr (.inr x1))] [.inr (.inr x0), .inr (.inr x0)] (by decide +kernel) rfl ?_
    refine s_gI fl_5_49 rfl (by decide +kernel) (fun v15 => ?_)
    refine s_run (b := [(.iconst 1, 1), (.iadd, 1)]) 53 [some (.inr (.inr x0)), some (.inr (.inr x1))] [.inl (v15 + (1 : Int32)), .inr (.inr x0)] (by decide +kernel) rfl ?_
    refine s_pI fl_5_49 (Or.inl rfl) rfl (by decide +kernel) (fun M16 => ?_)
    exact s_vret (by decide +kernel) rfl
  · skip
    exact s_vret (by decide +kernel) rfl
set_option maxRecDepth 20000 in
theorem c_X5_addCall {l : Launch} {G : Gv} {M : Mem} {x0 : Nat} {x1 : Nat} {z : Mem} (h : f_X5_addCall M x0 x1 = some z) : MetS l G Y_X5_addCall [.inr (.inr x0), .inr (.inr x1)] M none z :=
  met_of (ls0 := [some (.inr (.inr x0)), some (.inr (.inr x1))]) (by decide) rfl (lv_in (m := 0) rfl) (sl_le (Nat.le_of_ble_eq_true rfl)) (by rw [h]; rfl) (Or.inl ⟨rfl, rfl⟩) (S_X5_addCall M x0 x1)
def f_X5_addDesk (M : Mem) (x0 : Nat) (x1 : Int32) (x2 : Nat) : Option (Mem) :=
  (gI M 5 x0 0).bind fun v1 =>
  (if v1 < (8 : Int32) then
    (gR M 5 x0 5).bind fun v3 =>
    (gI M 5 x0 0).bind fun v4 =>
    (sI M 0 v3 v4 x1).bind fun M5 =>
    (gR M5 5 x0 6).bind fun v6 =>
    (gI M5 5 x0 0).bind fun v7 =>
    (aI M5 0 x2 (0 : Int32)).bind fun v8 =>
    (sI M5 0 v6 v7 v8).bind fun M9 =>
    (gR M9 5 x0 7).bind fun v10 =>
    (gI M9 5 x0 0).bind fun v11 =>
    (aI M9 0 x2 (1 : Int32)).bind fun v12 =>
    (sI M9 0 v10 v11 v12).bind fun M13 =>
    (gR M13 5 x0 8).bind fun v14 =>
    (gI M13 5 x0 0).bind fun v15 =>
    (aI M13 0 x2 (2 : Int32)).bind fun v16 =>
    (sI M13 0 v14 v15 v16).bind fun M17 =>
    (gR M17 5 x0 9).bind fun v18 =>
    (gI M17 5 x0 0).bind fun v19 =>
    (aI M17 0 x2 (3 : Int32)).bind fun v20 =>
    (sI M17 0 v18 v19 v20).bind fun M21 =>
    (gI M21 5 x0 0).bind fun v22 =>
    (pI M21 5 x0 0 (v22 + (1 : Int32))).bind fun M23 =>
    some M23
  else
    some M)
set_option maxRecDepth 20000 in
theorem S_X5_addDesk {l : Launch} {G : Gv} {lim : Nat × Nat} (M : Mem) (x0 : Nat) (x1 : Int32) (x2 : Nat) : Sim l G Y_X5_addDesk lim (f_X5_addDesk M x0 x1 x2) (fun z => some (none, z)) 0 [some (.inr (.inr x0)), some (.inl x1), some (.inr (.inr x2))] [] M := by
  unfold f_X5_addDesk
  refine s_run (b := [(.aload_n 0, 1)]) 1 [some (.inr (.inr x0)), some (.inl x1), some (.inr (.inr x2))] [.inr (.inr x0)] (by decide +kernel) rfl ?_
  refine s_gI fl_5_45 rfl (by decide +kernel) (fun v1 => ?_)
  refine s_run (b := [(.bipush 8, 2)]) 6 [some (.inr (.inr x0)), some (.inl x1), some (.inr (.inr x2))] [.inl (8 : Int32), .inl v1] (by decide +kernel) rfl ?_
  refine s_ic_lt (tgt := 10) (off := 4) (by decide +kernel) (by decide) (fun h2 => ?_) (fun h2 => ?_)
  · skip
    refine s_run (b := [(.aload_n 0, 1)]) 11 [some (.inr (.inr x0)), some (.inl x1), some (.inr (.inr x2))] [.inr (.inr x0)] (by decide +kernel) rfl ?_
    refine s_gR fl_5_9 rfl (by decide +kernel) (fun v3 => ?_)
    refine s_run (b := [(.aload_n 0, 1)]) 15 [some (.inr (.inr x0)), some (.inl x1), some (.inr (.inr x2))] [.inr (.inr x0), .inr (.inr v3)] (by decide +kernel) rfl ?_
    refine s_gI fl_5_45 rfl (by decide +kernel) (fun v4 => ?_)
    refine s_run (b := [(.iload_n 1, 1)]) 19 [some (.inr (.inr x0)), some (.inl x1), some (.inr (.inr x2))] [.inl x1, .inl v4, .inr (.inr v3)] (by decide +kernel) rfl ?_
    refine s_is (by decide +kernel) (fun M5 => ?_)
    refine s_run (b := [(.aload_n 0, 1)]) 21 [some (.inr (.inr x0)), some (.inl x1), some (.inr (.inr x2))] [.inr (.inr x0)] (by decide +kernel) rfl ?_
    refine s_gR fl_5_15 rfl (by decide +kernel) (fun v6 => ?_)
    refine s_run (b := [(.aload_n 0, 1)]) 25 [some (.inr (.inr x0)), some (.inl x1), some (.inr (.inr x2))] [.inr (.inr x0), .inr (.inr v6)] (by decide +kernel) rfl ?_
    refine s_gI fl_5_45 rfl (by decide +kernel) (fun v7 => ?_)
    refine s_run (b := [(.aload_n 2, 1), (.iconst 0, 1)]) 30 [some (.inr (.inr x0)), some (.inl x1), some (.inr (.inr x2))] [.inl (0 : Int32), .inr (.inr x2), .inl v7, .inr (.inr v6)] (by decide +kernel) rfl ?_
    refine s_ia (by decide +kernel) (fun v8 => ?_)
    refine s_is (by decide +kernel) (fun M9 => ?_)
    refine s_run (b := [(.aload_n 0, 1)]) 33 [some (.inr (.inr x0)), some (.inl x1), some (.inr (.inr x2))] [.inr (.inr x0)] (by decide +kernel) rfl ?_
    refine s_gR fl_5_18 rfl (by decide +kernel) (fun v10 => ?_)
    refine s_run (b := [(.aload_n 0, 1)]) 37 [some (.inr (.inr x0)), some (.inl x1), some (.inr (.inr x2))] [.inr (.inr x0), .inr (.inr v10)] (by decide +kernel) rfl ?_
    refine s_gI fl_5_45 rfl (by decide +kernel) (fun v11 => ?_)
    refine s_run (b := [(.aload_n 2, 1), (.iconst 1, 1)]) 42 [some (.inr (.inr x0)), some (.inl x1), some (.inr (.inr x2))] [.inl (1 : Int32), .inr (.inr x2), .inl v11, .inr (.inr v10)] (by decide +kernel) rfl ?_
    refine s_ia (by decide +kernel) (fun v12 => ?_)
    refine s_is (by decide +kernel) (fun M13 => ?_)
    refine s_run (b := [(.aload_n 0, 1)]) 45 [some (.inr (.inr x0)), some (.inl x1), some (.inr (.inr x2))] [.inr (.inr x0)] (by decide +kernel) rfl ?_
    refine s_gR fl_5_21 rfl (by decide +kernel) (fun v14 => ?_)
    refine s_run (b := [(.aload_n 0, 1)]) 49 [some (.inr (.inr x0)), some (.inl x1), some (.inr (.inr x2))] [.inr (.inr x0), .inr (.inr v14)] (by decide +kernel) rfl ?_
    refine s_gI fl_5_45 rfl (by decide +kernel) (fun v15 => ?_)
    refine s_run (b := [(.aload_n 2, 1), (.iconst 2, 1)]) 54 [some (.inr (.inr x0)), some (.inl x1), some (.inr (.inr x2))] [.inl (2 : Int32), .inr (.inr x2), .inl v15, .inr (.inr v14)] (by decide +kernel) rfl ?_
    refine s_ia (by decide +kernel) (fun v16 => ?_)
    refine s_is (by decide +kernel) (fun M17 => ?_)
    refine s_run (b := [(.aload_n 0, 1)]) 57 [some (.inr (.inr x0)), some (.inl x1), some (.inr (.inr x2))] [.inr (.inr x0)] (by decide +kernel) rfl ?_
    refine s_gR fl_5_24 rfl (by decide +kernel) (fun v18 => ?_)
    refine s_run (b := [(.aload_n 0, 1)]) 61 [some (.inr (.inr x0)), some (.inl x1), some (.inr (.inr x2))] [.inr (.inr x0), .inr (.inr v18)] (by decide +kernel) rfl ?_
    refine s_gI fl_5_45 rfl (by decide +kernel) (fun v19 => ?_)
    refine s_run (b := [(.aload_n 2, 1), (.iconst 3, 1)]) 66 [some (.inr (.inr x0)), some (.inl x1), some (.inr (.inr x2))] [.inl (3 : Int32), .inr (.inr x2), .inl v19, .inr (.inr v18)] (by decide +kernel) rfl ?_
    refine s_ia (by decide +kernel) (fun v20 => ?_)
    refine s_is (by decide +kernel) (fun M21 => ?_)
    refine s_run (b := [(.aload_n 0, 1), (.dup, 1)]) 70 [some (.inr (.inr x0)), some (.inl x1), some (.inr (.inr x2))] [.inr (.inr x0), .inr (.inr x0)] (by decide +kernel) rfl ?_
    refine s_gI fl_5_45 rfl (by decide +kernel) (fun v22 => ?_)
    refine s_run (b := [(.iconst 1, 1), (.iadd, 1)]) 75 [some (.inr (.inr x0)), some (.inl x1), some (.inr (.inr x2))] [.inl (v22 + (1 : Int32)), .inr (.inr x0)] (by decide +kernel) rfl ?_
    refine s_pI fl_5_45 (Or.inl rfl) rfl (by decide +kernel) (fun M23 => ?_)
    exact s_vret (by decide +kernel) rfl
  · skip
    exact s_vret (by decide +kernel) rfl
set_option maxRecDepth 20000 in
theorem c_X5_addDesk {l : Launch} {G : Gv} {M : Mem} {x0 : Nat} {x1 : Int32} {x2 : Nat} {z : Mem} (h : f_X5_addDesk M x0 x1 x2 = some z) : MetS l G Y_X5_addDesk [.inr (.inr x0), .inl x1, .inr (.inr x2)] M none z :=
  met_of (ls0 := [some (.inr (.inr x0)), some (.inl x1), some (.inr (.inr x2))]) (by decide) rfl (lv_in (m := 0) rfl) (sl_le (Nat.le_of_ble_eq_true rfl)) (by rw [h]; rfl) (Or.inl ⟨rfl, rfl⟩) (S_X5_addDesk M x0 x1 x2)
def f_X7_storeOffice (M : Mem) (x0 : Nat) (x1 : Int32) : Option (Mem) :=
  (if x1 = (5 : Int32) then
    (gR M 7 x0 0).bind fun v2 =>
    (gR M 7 x0 6).bind fun v3 =>
    (ob M 5 v2).bind fun _ => (f_X5_addCall M v2 v3).bind fun z4 =>
    some z4
  else
  (if x1 = (6 : Int32) then
    (gR M 7 x0 0).bind fun v6 =>
    (gR M 7 x0 6).bind fun v7 =>
    (aI M 0 v7 (0 : Int32)).bind fun v8 =>
    (pI M 5 v6 2 v8).bind fun M9 =>
    some M9
  else
  (if x1 = (7 : Int32) then
    (gR M 7 x0 0).bind fun v11 =>
    (gR M 7 x0 6).bind fun v12 =>
    (aI M 0 v12 (0 : Int32)).bind fun v13 =>
    (pI M 5 v11 3 v13).bind fun M14 =>
    some M14
  else
  (if x1 = (8 : Int32) then
    (gR M 7 x0 0).bind fun v16 =>
    (gR M 7 x0 6).bind fun v17 =>
    (aI M 0 v17 (0 : Int32)).bind fun v18 =>
    (pI M 5 v16 4 v18).bind fun M19 =>
    some M19
  else
  (gR M 7 x0 0).bind fun v20 =>
  (gR M 7 x0 6).bind fun v21 =>
  (ob M 5 v20).bind fun _ => (f_X5_addDesk M v20 x1 v21).bind fun z22 =>
  some z22))))
set_option maxRecDepth 20000 in
theorem S_X7_storeOffice {l : Launch} {G : Gv} {lim : Nat × Nat} (M : Mem) (x0 : Nat) (x1 : Int32) : Sim l G Y_X7_storeOffice lim (f_X7_storeOffice M x0 x1) (fun z => some (none, z)) 0 [some (.inr (.inr x0)), some (.inl x1)] [] M := by
  unfold f_X7_storeOffice
  refine s_run (b := [(.iload_n 1, 1)]) 1 [some (.inr (.inr x0)), some (.inl x1)] [.inl x1] (by decide +kernel) rfl ?_
  refine s_ite (fun h1 => ?_) (fun h1 => ?_)
  · refine s_tabIn (off := 31) (tgt := 32) (dflt := 93) (lo := 5) (hi := 8) (offs := #[31, 45, 61, 77]) (len := 31) (5 : Int32) (by decide +kernel) h1 rfl rfl rfl (by decide) ?_
    change Sim l G Y_X7_storeOffice lim _ _ 32 [some (.inr (.inr x0)), some (.inl x1)] [] M
    refine s_run (b := [(.aload_n 0, 1)]) 33 [some (.inr (.inr x0)), some (.inl x1)] [.inr (.inr x0)] (by decide +kernel) rfl ?_
    refine s_gR fl_7_12 rfl (by decide +kernel) (fun v2 => ?_)
    refine s_run (b := [(.aload_n 0, 1)]) 37 [some (.inr (.inr x0)), some (.inl x1)] [.inr (.inr x0), .inr (.inr v2)] (by decide +kernel) rfl ?_
    refine s_gR fl_7_40 rfl (by decide +kernel) (fun v3 => ?_)
    refine s_cV (Z := Y_X5_addCall) (c := 5) (vs := [.inr (.inr v3)]) (st := []) (rO := fun _ => none) (mO := fun z => z) zk_X5_addCall zi_X5_addCall q661 rfl ⟨by decide, by decide⟩ ⟨rfl, rfl⟩ rfl rfl (Nat.le_of_ble_eq_true rfl) (by decide +kernel) (fun z hz => c_X5_addCall hz) (fun z4 => ?_)
    change Sim l G Y_X7_storeOffice lim _ _ 43 [some (.inr (.inr x0)), some (.inl x1)] [] z4
    refine s_run (b := [(.goto 63, 3)]) 106 [some (.inr (.inr x0)), some (.inl x1)] [] (by decide +kernel) rfl ?_
    exact s_vret (by decide +kernel) rfl
  refine s_ite (fun h5 => ?_) (fun h5 => ?_)
  · refine s_tabIn (off := 45) (tgt := 46) (dflt := 93) (lo := 5) (hi := 8) (offs := #[31, 45, 61, 77]) (len := 31) (6 : Int32) (by decide +kernel) h5 rfl rfl rfl (by decide) ?_
    change Sim l G Y_X7_storeOffice lim _ _ 46 [some (.inr (.inr x0)), some (.inl x1)] [] M
    refine s_run (b := [(.aload_n 0, 1)]) 47 [some (.inr (.inr x0)), some (.inl x1)] [.inr (.inr x0)] (by decide +kernel) rfl ?_
    refine s_gR fl_7_12 rfl (by decide +kernel) (fun v6 => ?_)
    refine s_run (b := [(.aload_n 0, 1)]) 51 [some (.inr (.inr x0)), some (.inl x1)] [.inr (.inr x0), .inr (.inr v6)] (by decide +kernel) rfl ?_
    refine s_gR fl_7_40 rfl (by decide +kernel) (fun v7 => ?_)
    refine s_run (b := [(.iconst 0, 1)]) 55 [some (.inr (.inr x0)), some (.inl x1)] [.inl (0 : Int32), .inr (.inr v7), .inr (.inr v6)] (by decide +kernel) rfl ?_
    refine s_ia (by decide +kernel) (fun v8 => ?_)
    refine s_pI fl_7_154 (Or.inl rfl) rfl (by decide +kernel) (fun M9 => ?_)
    refine s_run (b := [(.goto 47, 3)]) 106 [some (.inr (.inr x0)), some (.inl x1)] [] (by decide +kernel) rfl ?_
    exact s_vret (by decide +kernel) rfl
  refine s_ite (fun h10 => ?_) (fun h10 => ?_)
  · refine s_tabIn (off := 61) (tgt := 62) (dflt := 93) (lo := 5) (hi := 8) (offs := #[31, 45, 61, 77]) (len := 31) (7 : Int32) (by decide +kernel) h10 rfl rfl rfl (by decide) ?_
    change Sim l G Y_X7_storeOffice lim _ _ 62 [some (.inr (.inr x0)), some (.inl x1)] [] M
    refine s_run (b := [(.aload_n 0, 1)]) 63 [some (.inr (.inr x0)), some (.inl x1)] [.inr (.inr x0)] (by decide +kernel) rfl ?_
    refine s_gR fl_7_12 rfl (by decide +kernel) (fun v11 => ?_)
    refine s_run (b := [(.aload_n 0, 1)]) 67 [some (.inr (.inr x0)), some (.inl x1)] [.inr (.inr x0), .inr (.inr v11)] (by decide +kernel) rfl ?_
    refine s_gR fl_7_40 rfl (by decide +kernel) (fun v12 => ?_)
    refine s_run (b := [(.iconst 0, 1)]) 71 [some (.inr (.inr x0)), some (.inl x1)] [.inl (0 : Int32), .inr (.inr v12), .inr (.inr v11)] (by decide +kernel) rfl ?_
    refine s_ia (by decide +kernel) (fun v13 => ?_)
    refine s_pI fl_7_157 (Or.inl rfl) rfl (by decide +kernel) (fun M14 => ?_)
    refine s_run (b := [(.goto 31, 3)]) 106 [some (.inr (.inr x0)), some (.inl x1)] [] (by decide +kernel) rfl ?_
    exact s_vret (by decide +kernel) rfl
  refine s_ite (fun h15 => ?_) (fun h15 => ?_)
  · refine s_tabIn (off := 77) (tgt := 78) (dflt := 93) (lo := 5) (hi := 8) (offs := #[31, 45, 61, 77]) (len := 31) (8 : Int32) (by decide +kernel) h15 rfl rfl rfl (by decide) ?_
    change Sim l G Y_X7_storeOffice lim _ _ 78 [some (.inr (.inr x0)), some (.inl x1)] [] M
    refine s_run (b := [(.aload_n 0, 1)]) 79 [some (.inr (.inr x0)), some (.inl x1)] [.inr (.inr x0)] (by decide +kernel) rfl ?_
    refine s_gR fl_7_12 rfl (by decide +kernel) (fun v16 => ?_)
    refine s_run (b := [(.aload_n 0, 1)]) 83 [some (.inr (.inr x0)), some (.inl x1)] [.inr (.inr x0), .inr (.inr v16)] (by decide +kernel) rfl ?_
    refine s_gR fl_7_40 rfl (by decide +kernel) (fun v17 => ?_)
    refine s_run (b := [(.iconst 0, 1)]) 87 [some (.inr (.inr x0)), some (.inl x1)] [.inl (0 : Int32), .inr (.inr v17), .inr (.inr v16)] (by decide +kernel) rfl ?_
    refine s_ia (by decide +kernel) (fun v18 => ?_)
    refine s_pI fl_7_160 (Or.inl rfl) rfl (by decide +kernel) (fun M19 => ?_)
    refine s_run (b := [(.goto 15, 3)]) 106 [some (.inr (.inr x0)), some (.inl x1)] [] (by decide +kernel) rfl ?_
    exact s_vret (by decide +kernel) rfl
  refine s_tabOut (tgt := 94) (dflt := 93) (lo := 5) (hi := 8) (offs := #[31, 45, 61, 77]) (len := 31) (by decide +kernel) (tab_out (fun k hk => by rcases (show k = 0 ∨ k = 1 ∨ k = 2 ∨ k = 3 by omega) with rfl | rfl | rfl | rfl <;> first | exact i32_ne h1 (by decide) | exact i32_ne h5 (by decide) | exact i32_ne h10 (by decide) | exact i32_ne h15 (by decide))) (by decide) ?_
  change Sim l G Y_X7_storeOffice lim _ _ 94 [some (.inr (.inr x0)), some (.inl x1)] [] M
  refine s_run (b := [(.aload_n 0, 1)]) 95 [some (.inr (.inr x0)), some (.inl x1)] [.inr (.inr x0)] (by decide +kernel) rfl ?_
  refine s_gR fl_7_12 rfl (by decide +kernel) (fun v20 => ?_)
  refine s_run (b := [(.iload_n 1, 1), (.aload_n 0, 1)]) 100 [some (.inr (.inr x0)), some (.inl x1)] [.inr (.inr x0), .inl x1, .inr (.inr v20)] (by decide +kernel) rfl ?_
  refine s_gR fl_7_40 rfl (by decide +kernel) (fun v21 => ?_)
  refine s_cV (Z := Y_X5_addDesk) (c := 5) (vs := [.inl x1, .inr (.inr v21)]) (st := []) (rO := fun _ => none) (mO := fun z => z) zk_X5_addDesk zi_X5_addDesk q665 rfl ⟨by decide, by decide⟩ ⟨rfl, rfl⟩ rfl rfl (Nat.le_of_ble_eq_true rfl) (by decide +kernel) (fun z hz => c_X5_addDesk hz) (fun z22 => ?_)
  change Sim l G Y_X7_storeOffice lim _ _ 106 [some (.inr (.inr x0)), some (.inl x1)] [] z22
  exact s_vret (by decide +kernel) rfl
set_option maxRecDepth 20000 in
theorem c_X7_storeOffice {l : Launch} {G : Gv} {M : Mem} {x0 : Nat} {x1 : Int32} {z : Mem} (h : f_X7_storeOffice M x0 x1 = some z) : MetS l G Y_X7_storeOffice [.inr (.inr x0), .inl x1] M none z :=
  met_of (ls0 := [some (.inr (.inr x0)), some (.inl x1)]) (by decide) rfl (lv_in (m := 0) rfl) (sl_le (Nat.le_of_ble_eq_true rfl)) (by rw [h]; rfl) (Or.inl ⟨rfl, rfl⟩) (S_X7_storeOffice M x0 x1)
def f_X7_store_J83 (M : Mem)  (y0 : Nat) (y1 : Int32) (y2 : Int32) (y3 : Int32) : Option (Mem) :=
  (ob M 4 y0).bind fun _ => (f_X4_add M y0 y1 y2 y3).bind fun z1 =>
  some z1
set_option maxRecDepth 20000 in
theorem J_X7_store_83 {l : Launch} {G : Gv} {lim : Nat × Nat} (M : Mem)  (y0 : Nat) (y1 : Int32) (y2 : Int32) (y3 : Int32)  : Sim l G Y_X7_store lim (f_X7_store_J83 M y0 y1 y2 y3) (fun z => some (none, z)) 83 [none, none, none, none] [.inl y3, .inl y2, .inl y1, .inr (.inr y0)] M := by
  unfold f_X7_store_J83
  refine s_cV (Z := Y_X4_add) (c := 4) (vs := [.inl y1, .inl y2, .inl y3]) (st := []) (rO := fun _ => none) (mO := fun z => z) zk_X4_add zi_X4_add q653 rfl ⟨by decide, by decide⟩ ⟨rfl, rfl⟩ rfl rfl (Nat.le_of_ble_eq_true rfl) (by decide +kernel) (fun z hz => c_X4_add hz) (fun z1 => ?_)
  change Sim l G Y_X7_store lim _ _ 86 [none, none, none, none] [] z1
  refine s_run (b := [(.goto 8, 3)]) 94 [none, none, none, none] [] (by decide +kernel) rfl ?_
  exact s_vret (by decide +kernel) rfl
def f_X7_store_J69 (M : Mem) (x0 : Nat) (x3 : Int32) (y0 : Nat) (y1 : Int32) (y2 : Int32) : Option (Mem) :=
  (if x3 = 0 then
    f_X7_store_J83 M  y0 y1 y2 (-1 : Int32)
  else
    (gR M 7 x0 6).bind fun v2 =>
    (aI M 0 v2 (2 : Int32)).bind fun v3 =>
    f_X7_store_J83 M  y0 y1 y2 v3)
set_option maxRecDepth 20000 in
theorem J_X7_store_69 {l : Launch} {G : Gv} {lim : Nat × Nat} (M : Mem) (x0 : Nat) (x3 : Int32) (y0 : Nat) (y1 : Int32) (y2 : Int32)  : Sim l G Y_X7_store lim (f_X7_store_J69 M x0 x3 y0 y1 y2) (fun z => some (none, z)) 69 [some (.inr (.inr x0)), none, none, some (.inl x3)] [.inl y2, .inl y1, .inr (.inr y0)] M := by
  unfold f_X7_store_J69
  refine s_run (b := [(.iload_n 3, 1)]) 70 [some (.inr (.inr x0)), none, none, some (.inl x3)] [.inl x3, .inl y2, .inl y1, .inr (.inr y0)] (by decide +kernel) rfl ?_
  refine s_if_eq (tgt := 82) (off := 12) (by decide +kernel) (by decide) (fun h1 => ?_) (fun h1 => ?_)
  · skip
    refine s_run (b := [(.iconst (-1), 1)]) 83 [some (.inr (.inr x0)), none, none, some (.inl x3)] [.inl (-1 : Int32), .inl y2, .inl y1, .inr (.inr y0)] (by decide +kernel) rfl ?_
    exact s_lsub (ls' := [none, none, none, none]) trivial (J_X7_store_83 M  y0 y1 y2 (-1 : Int32))
  · skip
    refine s_run (b := [(.aload_n 0, 1)]) 74 [some (.inr (.inr x0)), none, none, some (.inl x3)] [.inr (.inr x0), .inl y2, .inl y1, .inr (.inr y0)] (by decide +kernel) rfl ?_
    refine s_gR fl_7_40 rfl (by decide +kernel) (fun v2 => ?_)
    refine s_run (b := [(.iconst 2, 1)]) 78 [some (.inr (.inr x0)), none, none, some (.inl x3)] [.inl (2 : Int32), .inr (.inr v2), .inl y2, .inl y1, .inr (.inr y0)] (by decide +kernel) rfl ?_
    refine s_ia (by decide +kernel) (fun v3 => ?_)
    refine s_run (b := [(.goto 4, 3)]) 83 [some (.inr (.inr x0)), none, none, some (.inl x3)] [.inl v3, .inl y2, .inl y1, .inr (.inr y0)] (by decide +kernel) rfl ?_
    exact s_lsub (ls' := [none, none, none, none]) trivial (J_X7_store_83 M  y0 y1 y2 v3)
def f_X7_store_J44 (M : Mem) (x0 : Nat) (y0 : Int32) : Option (Mem) :=
  (gR M 7 x0 2).bind fun v1 =>
  (gR M 7 x0 6).bind fun v2 =>
  (aI M 0 v2 (0 : Int32)).bind fun v3 =>
  (if y0 = 0 then
    f_X7_store_J69 M x0 y0 v1 v3 (-1 : Int32)
  else
    (gR M 7 x0 6).bind fun v5 =>
    (aI M 0 v5 (1 : Int32)).bind fun v6 =>
    f_X7_store_J69 M x0 y0 v1 v3 v6)
set_option maxRecDepth 20000 in
theorem J_X7_store_44 {l : Launch} {G : Gv} {lim : Nat × Nat} (M : Mem) (x0 : Nat) (y0 : Int32)  : Sim l G Y_X7_store lim (f_X7_store_J44 M x0 y0) (fun z => some (none, z)) 44 [some (.inr (.inr x0)), none, none, none] [.inl y0] M := by
  unfold f_X7_store_J44
  refine s_run (b := [(.istore_n 3, 1), (.aload_n 0, 1)]) 46 [some (.inr (.inr x0)), none, none, some (.inl y0)] [.inr (.inr x0)] (by decide +kernel) rfl ?_
  refine s_gR fl_7_28 rfl (by decide +kernel) (fun v1 => ?_)
  refine s_run (b := [(.aload_n 0, 1)]) 50 [some (.inr (.inr x0)), none, none, some (.inl y0)] [.inr (.inr x0), .inr (.inr v1)] (by decide +kernel) rfl ?_
  refine s_gR fl_7_40 rfl (by decide +kernel) (fun v2 => ?_)
  refine s_run (b := [(.iconst 0, 1)]) 54 [some (.inr (.inr x0)), none, none, some (.inl y0)] [.inl (0 : Int32), .inr (.inr v2), .inr (.inr v1)] (by decide +kernel) rfl ?_
  refine s_ia (by decide +kernel) (fun v3 => ?_)
  refine s_run (b := [(.iload_n 3, 1)]) 56 [some (.inr (.inr x0)), none, none, some (.inl y0)] [.inl y0, .inl v3, .inr (.inr v1)] (by decide +kernel) rfl ?_
  refine s_if_eq (tgt := 68) (off := 12) (by decide +kernel) (by decide) (fun h4 => ?_) (fun h4 => ?_)
  · skip
    refine s_run (b := [(.iconst (-1), 1)]) 69 [some (.inr (.inr x0)), none, none, some (.inl y0)] [.inl (-1 : Int32), .inl v3, .inr (.inr v1)] (by decide +kernel) rfl ?_
    exact s_lsub (ls' := [some (.inr (.inr x0)), none, none, some (.inl y0)]) ⟨rfl, ⟨rfl, trivial⟩⟩ (J_X7_store_69 M x0 y0 v1 v3 (-1 : Int32))
  · skip
    refine s_run (b := [(.aload_n 0, 1)]) 60 [some (.inr (.inr x0)), none, none, some (.inl y0)] [.inr (.inr x0), .inl v3, .inr (.inr v1)] (by decide +kernel) rfl ?_
    refine s_gR fl_7_40 rfl (by decide +kernel) (fun v5 => ?_)
    refine s_run (b := [(.iconst 1, 1)]) 64 [some (.inr (.inr x0)), none, none, some (.inl y0)] [.inl (1 : Int32), .inr (.inr v5), .inl v3, .inr (.inr v1)] (by decide +kernel) rfl ?_
    refine s_ia (by decide +kernel) (fun v6 => ?_)
    refine s_run (b := [(.goto 4, 3)]) 69 [some (.inr (.inr x0)), none, none, some (.inl y0)] [.inl v6, .inl v3, .inr (.inr v1)] (by decide +kernel) rfl ?_
    exact s_lsub (ls' := [some (.inr (.inr x0)), none, none, some (.inl y0)]) ⟨rfl, ⟨rfl, trivial⟩⟩ (J_X7_store_69 M x0 y0 v1 v3 v6)
def f_X7_store (M : Mem) (x0 : Nat) (x1 : Int32) (x2 : Int32) : Option (Mem) :=
  (if x1 = (1 : Int32) then
    (gR M 7 x0 1).bind fun v2 =>
    (aI M 0 1001 (1 : Int32)).bind fun v3 =>
    (gR M 7 x0 6).bind fun v4 =>
    (aI M 0 v4 (0 : Int32)).bind fun v5 =>
    (ob M 1 v2).bind fun _ => (f_X1_add M v2 (x2 - v3) v5).bind fun z6 =>
    some z6
  else
    (if x1 = (2 : Int32) then
      (if x2 = (13 : Int32) then
        f_X7_store_J44 M x0 (1 : Int32)
      else
        f_X7_store_J44 M x0 (0 : Int32))
    else
      (ob M 7 x0).bind fun _ => (f_X7_storeOffice M x0 x2).bind fun z9 =>
      some z9))
set_option maxRecDepth 20000 in
theorem S_X7_store {l : Launch} {G : Gv} {lim : Nat × Nat} (M : Mem) (x0 : Nat) (x1 : Int32) (x2 : Int32) : Sim l G Y_X7_store lim (f_X7_store M x0 x1 x2) (fun z => some (none, z)) 0 [some (.inr (.inr x0)), some (.inl x1), some (.inl x2), none] [] M := by
  unfold f_X7_store
  refine s_run (b := [(.iload_n 1, 1), (.iconst 1, 1)]) 2 [some (.inr (.inr x0)), some (.inl x1), some (.inl x2), none] [.inl (1 : Int32), .inl x1] (by decide +kernel) rfl ?_
  refine s_ic_ne (tgt := 28) (off := 26) (by decide +kernel) (by decide) (fun h1 => ?_) (fun h1 => ?_)
  · skip
    refine s_run (b := [(.aload_n 0, 1)]) 6 [some (.inr (.inr x0)), some (.inl x1), some (.inl x2), none] [.inr (.inr x0)] (by decide +kernel) rfl ?_
    refine s_gR fl_7_21 rfl (by decide +kernel) (fun v2 => ?_)
    refine s_run (b := [(.iload_n 2, 1)]) 10 [some (.inr (.inr x0)), some (.inl x1), some (.inl x2), none] [.inl x2, .inr (.inr v2)] (by decide +kernel) rfl ?_
    refine s_gs (j := 1) (by decide) q545 (by decide +kernel) ?_
    change Sim l G Y_X7_store lim _ _ 13 [some (.inr (.inr x0)), some (.inl x1), some (.inl x2), none] [.inr (.inr 1001), .inl x2, .inr (.inr v2)] M
    refine s_run (b := [(.iconst 1, 1)]) 14 [some (.inr (.inr x0)), some (.inl x1), some (.inl x2), none] [.inl (1 : Int32), .inr (.inr 1001), .inl x2, .inr (.inr v2)] (by decide +kernel) rfl ?_
    refine s_ia (by decide +kernel) (fun v3 => ?_)
    refine s_run (b := [(.isub, 1), (.aload_n 0, 1)]) 17 [some (.inr (.inr x0)), some (.inl x1), some (.inl x2), none] [.inr (.inr x0), .inl (x2 - v3), .inr (.inr v2)] (by decide +kernel) rfl ?_
    refine s_gR fl_7_40 rfl (by decide +kernel) (fun v4 => ?_)
    refine s_run (b := [(.iconst 0, 1)]) 21 [some (.inr (.inr x0)), some (.inl x1), some (.inl x2), none] [.inl (0 : Int32), .inr (.inr v4), .inl (x2 - v3), .inr (.inr v2)] (by decide +kernel) rfl ?_
    refine s_ia (by decide +kernel) (fun v5 => ?_)
    refine s_cV (Z := Y_X1_add) (c := 1) (vs := [.inl (x2 - v3), .inl v5]) (st := []) (rO := fun _ => none) (mO := fun z => z) zk_X1_add zi_X1_add q649 rfl ⟨by decide, by decide⟩ ⟨rfl, rfl⟩ rfl rfl (Nat.le_of_ble_eq_true rfl) (by decide +kernel) (fun z hz => c_X1_add hz) (fun z6 => ?_)
    change Sim l G Y_X7_store lim _ _ 25 [some (.inr (.inr x0)), some (.inl x1), some (.inl x2), none] [] z6
    refine s_run (b := [(.goto 69, 3)]) 94 [some (.inr (.inr x0)), some (.inl x1), some (.inl x2), none] [] (by decide +kernel) rfl ?_
    exact s_vret (by decide +kernel) rfl
  · skip
    refine s_run (b := [(.iload_n 1, 1), (.iconst 2, 1)]) 30 [some (.inr (.inr x0)), some (.inl x1), some (.inl x2), none] [.inl (2 : Int32), .inl x1] (by decide +kernel) rfl ?_
    refine s_ic_ne (tgt := 89) (off := 59) (by decide +kernel) (by decide) (fun h7 => ?_) (fun h7 => ?_)
    · skip
      refine s_run (b := [(.iload_n 2, 1), (.bipush 13, 2)]) 36 [some (.inr (.inr x0)), some (.inl x1), some (.inl x2), none] [.inl (13 : Int32), .inl x2] (by decide +kernel) rfl ?_
      refine s_ic_ne (tgt := 43) (off := 7) (by decide +kernel) (by decide) (fun h8 => ?_) (fun h8 => ?_)
      · skip
        refine s_run (b := [(.iconst 1, 1), (.goto 4, 3)]) 44 [some (.inr (.inr x0)), some (.inl x1), some (.inl x2), none] [.inl (1 : Int32)] (by decide +kernel) rfl ?_
        exact s_lsub (ls' := [some (.inr (.inr x0)), none, none, none]) ⟨rfl, trivial⟩ (J_X7_store_44 M x0 (1 : Int32))
      · skip
        refine s_run (b := [(.iconst 0, 1)]) 44 [some (.inr (.inr x0)), some (.inl x1), some (.inl x2), none] [.inl (0 : Int32)] (by decide +kernel) rfl ?_
        exact s_lsub (ls' := [some (.inr (.inr x0)), none, none, none]) ⟨rfl, trivial⟩ (J_X7_store_44 M x0 (0 : Int32))
    · skip
      refine s_run (b := [(.aload_n 0, 1), (.iload_n 2, 1)]) 91 [some (.inr (.inr x0)), some (.inl x1), some (.inl x2), none] [.inl x2, .inr (.inr x0)] (by decide +kernel) rfl ?_
      refine s_cV (Z := Y_X7_storeOffice) (c := 7) (vs := [.inl x2]) (st := []) (rO := fun _ => none) (mO := fun z => z) zk_X7_storeOffice zi_X7_storeOffice q657 rfl ⟨by decide, by decide⟩ ⟨rfl, rfl⟩ rfl rfl (Nat.le_of_ble_eq_true rfl) (by decide +kernel) (fun z hz => c_X7_storeOffice hz) (fun z9 => ?_)
      change Sim l G Y_X7_store lim _ _ 94 [some (.inr (.inr x0)), some (.inl x1), some (.inl x2), none] [] z9
      exact s_vret (by decide +kernel) rfl
set_option maxRecDepth 20000 in
theorem c_X7_store {l : Launch} {G : Gv} {M : Mem} {x0 : Nat} {x1 : Int32} {x2 : Int32} {z : Mem} (h : f_X7_store M x0 x1 x2 = some z) : MetS l G Y_X7_store [.inr (.inr x0), .inl x1, .inl x2] M none z :=
  met_of (ls0 := [some (.inr (.inr x0)), some (.inl x1), some (.inl x2), none]) (by decide) rfl (lv_in (m := 1) rfl) (sl_le (Nat.le_of_ble_eq_true rfl)) (by rw [h]; rfl) (Or.inl ⟨rfl, rfl⟩) (S_X7_store M x0 x1 x2)
def f_X7_isDigit (M : Mem) (x0 : Int32) : Option (Int32) :=
  (if x0 < (48 : Int32) then
    some (0 : Int32)
  else
    (if (57 : Int32) < x0 then
      some (0 : Int32)
    else
      some (1 : Int32)))
set_option maxRecDepth 20000 in
theorem S_X7_isDigit {l : Launch} {G : Gv} {lim : Nat × Nat} (M : Mem) (x0 : Int32) : Sim l G Y_X7_isDigit lim (f_X7_isDigit M x0) (fun z => some (some (.int z), M)) 0 [some (.inl x0)] [] M := by
  unfold f_X7_isDigit
  refine s_run (b := [(.iload_n 0, 1), (.bipush 48, 2)]) 3 [some (.inl x0)] [.inl (48 : Int32), .inl x0] (by decide +kernel) rfl ?_
  refine s_ic_lt (tgt := 16) (off := 13) (by decide +kernel) (by decide) (fun h1 => ?_) (fun h1 => ?_)
  · skip
    refine s_run (b := [(.iconst 0, 1)]) 17 [some (.inl x0)] [.inl (0 : Int32)] (by decide +kernel) rfl ?_
    exact s_bret (Or.inl rfl) (by decide +kernel) rfl
  · skip
    refine s_run (b := [(.iload_n 0, 1), (.bipush 57, 2)]) 9 [some (.inl x0)] [.inl (57 : Int32), .inl x0] (by decide +kernel) rfl ?_
    refine s_ic_gt (tgt := 16) (off := 7) (by decide +kernel) (by decide) (fun h2 => ?_) (fun h2 => ?_)
    · skip
      refine s_run (b := [(.iconst 0, 1)]) 17 [some (.inl x0)] [.inl (0 : Int32)] (by decide +kernel) rfl ?_
      exact s_bret (Or.inl rfl) (by decide +kernel) rfl
    · skip
      refine s_run (b := [(.iconst 1, 1), (.goto 4, 3)]) 17 [some (.inl x0)] [.inl (1 : Int32)] (by decide +kernel) rfl ?_
      exact s_bret (Or.inr rfl) (by decide +kernel) rfl
set_option maxRecDepth 20000 in
theorem c_X7_isDigit {l : Launch} {G : Gv} {M : Mem} {x0 : Int32} {z : Int32} (h : f_X7_isDigit M x0 = some z) : MetS l G Y_X7_isDigit [.inl x0] M (some (.int z)) M :=
  met_of (ls0 := [some (.inl x0)]) (by decide) rfl (lv_in (m := 0) rfl) (sl_le (Nat.le_of_ble_eq_true rfl)) (by rw [h]; rfl) (Or.inl ⟨rfl, rfl⟩) (S_X7_isDigit M x0)
def f_X7_isLetter (M : Mem) (x0 : Int32) : Option (Int32) :=
  (if x0 < (97 : Int32) then
    some (0 : Int32)
  else
    (if (122 : Int32) < x0 then
      some (0 : Int32)
    else
      some (1 : Int32)))
set_option maxRecDepth 20000 in
theorem S_X7_isLetter {l : Launch} {G : Gv} {lim : Nat × Nat} (M : Mem) (x0 : Int32) : Sim l G Y_X7_isLetter lim (f_X7_isLetter M x0) (fun z => some (some (.int z), M)) 0 [some (.inl x0)] [] M := by
  unfold f_X7_isLetter
  refine s_run (b := [(.iload_n 0, 1), (.bipush 97, 2)]) 3 [some (.inl x0)] [.inl (97 : Int32), .inl x0] (by decide +kernel) rfl ?_
  refine s_ic_lt (tgt := 16) (off := 13) (by decide +kernel) (by decide) (fun h1 => ?_) (fun h1 => ?_)
  · skip
    refine s_run (b := [(.iconst 0, 1)]) 17 [some (.inl x0)] [.inl (0 : Int32)] (by decide +kernel) rfl ?_
    exact s_bret (Or.inl rfl) (by decide +kernel) rfl
  · skip
    refine s_run (b := [(.iload_n 0, 1), (.bipush 122, 2)]) 9 [some (.inl x0)] [.inl (122 : Int32), .inl x0] (by decide +kernel) rfl ?_
    refine s_ic_gt (tgt := 16) (off := 7) (by decide +kernel) (by decide) (fun h2 => ?_) (fun h2 => ?_)
    · skip
      refine s_run (b := [(.iconst 0, 1)]) 17 [some (.inl x0)] [.inl (0 : Int32)] (by decide +kernel) rfl ?_
      exact s_bret (Or.inl rfl) (by decide +kernel) rfl
    · skip
      refine s_run (b := [(.iconst 1, 1), (.goto 4, 3)]) 17 [some (.inl x0)] [.inl (1 : Int32)] (by decide +kernel) rfl ?_
      exact s_bret (Or.inr rfl) (by decide +kernel) rfl
set_option maxRecDepth 20000 in
theorem c_X7_isLetter {l : Launch} {G : Gv} {M : Mem} {x0 : Int32} {z : Int32} (h : f_X7_isLetter M x0 = some z) : MetS l G Y_X7_isLetter [.inl x0] M (some (.int z)) M :=
  met_of (ls0 := [some (.inl x0)]) (by decide) rfl (lv_in (m := 0) rfl) (sl_le (Nat.le_of_ble_eq_true rfl)) (by rw [h]; rfl) (Or.inl ⟨rfl, rfl⟩) (S_X7_isLetter M x0)
def f_X7_takeNumber_B5 (M : Mem) (x0 : Nat)  : Option ((Mem) ⊕ ((Mem))) :=
  (gI M 7 x0 10).bind fun v1 =>
  (gI M 7 x0 7).bind fun v2 =>
  (if v2 ≤ v1 then
    some (.inr M)
  else
    (gR M 7 x0 5).bind fun v4 =>
    (gI M 7 x0 10).bind fun v5 =>
    (aI M 1 v4 v5).bind fun v6 =>
    (f_X7_isDigit M v6).bind fun v7 =>
    (if v7 = 0 then
      some (.inr M)
    else
      (gI M 7 x0 11).bind fun v9 =>
      (gR M 7 x0 5).bind fun v10 =>
      (gI M 7 x0 10).bind fun v11 =>
      (aI M 1 v10 v11).bind fun v12 =>
      (pI M 7 x0 11 (((v9 * (10 : Int32)) + v12) - (48 : Int32))).bind fun M13 =>
      (gI M13 7 x0 10).bind fun v14 =>
      (pI M13 7 x0 10 (v14 + (1 : Int32))).bind fun M15 =>
      some (.inl M15)))
def f_X7_takeNumber_L5 (M : Mem) (x0 : Nat)  : Option ((Mem)) := iter (fun s : Mem => f_X7_takeNumber_B5 s x0 ) 1048576 M
set_option maxRecDepth 20000 in
theorem B_X7_takeNumber_5 {l : Launch} {G : Gv} {lim : Nat × Nat} (M : Mem) (x0 : Nat)  (K : (Mem) ⊕ ((Mem)) → Option (Option Value × Mem)) (kk1 : ∀ (s_ : Mem), SimR l G Y_X7_takeNumber lim (K (.inl s_)) 5 [some (.inr (.inr x0))] [] s_) (kk2_0 : ∀ (s_ : Mem), SimR l G Y_X7_takeNumber lim (K (.inr s_)) 68 [some (.inr (.inr x0))] [] s_) : Sim l G Y_X7_takeNumber lim (f_X7_takeNumber_B5 M x0 ) K 5 [some (.inr (.inr x0))] [] M := by
  unfold f_X7_takeNumber_B5
  refine s_run (b := [(.aload_n 0, 1)]) 6 [some (.inr (.inr x0))] [.inr (.inr x0)] (by decide +kernel) rfl ?_
  refine s_gI fl_7_53 rfl (by decide +kernel) (fun v1 => ?_)
  refine s_run (b := [(.aload_n 0, 1)]) 10 [some (.inr (.inr x0))] [.inr (.inr x0), .inl v1] (by decide +kernel) rfl ?_
  refine s_gI fl_7_50 rfl (by decide +kernel) (fun v2 => ?_)
  refine s_ic_ge (tgt := 68) (off := 55) (by decide +kernel) (by decide) (fun h3 => ?_) (fun h3 => ?_)
  · skip
    exact s_lsub (ls' := [some (.inr (.inr x0))]) ⟨rfl, trivial⟩ (kk2_0 M)
  · skip
    refine s_run (b := [(.aload_n 0, 1)]) 17 [some (.inr (.inr x0))] [.inr (.inr x0)] (by decide +kernel) rfl ?_
    refine s_gR fl_7_36 rfl (by decide +kernel) (fun v4 => ?_)
    refine s_run (b := [(.aload_n 0, 1)]) 21 [some (.inr (.inr x0))] [.inr (.inr x0), .inr (.inr v4)] (by decide +kernel) rfl ?_
    refine s_gI fl_7_53 rfl (by decide +kernel) (fun v5 => ?_)
    refine s_ba (by decide) (by decide +kernel) (fun v6 => ?_)
    refine s_cS (Z := Y_X7_isDigit) (vs := [.inl v6]) (st := []) (rO := fun z => some (.inl z)) (mO := fun _ => M) zk_X7_isDigit q531 q530 ⟨by decide, by decide⟩ ⟨rfl, rfl⟩ rfl rfl (Nat.le_of_ble_eq_true rfl) (by decide +kernel) (fun z hz => c_X7_isDigit hz) (fun v7 => ?_)
    change Sim l G Y_X7_takeNumber lim _ _ 28 [some (.inr (.inr x0))] [.inl v7] M
    refine s_if_eq (tgt := 68) (off := 40) (by decide +kernel) (by decide) (fun h8 => ?_) (fun h8 => ?_)
    · skip
      exact s_lsub (ls' := [some (.inr (.inr x0))]) ⟨rfl, trivial⟩ (kk2_0 M)
    · skip
      refine s_run (b := [(.aload_n 0, 1), (.aload_n 0, 1)]) 33 [some (.inr (.inr x0))] [.inr (.inr x0), .inr (.inr x0)] (by decide +kernel) rfl ?_
      refine s_gI fl_7_100 rfl (by decide +kernel) (fun v9 => ?_)
      refine s_run (b := [(.bipush 10, 2), (.imul, 1), (.aload_n 0, 1)]) 40 [some (.inr (.inr x0))] [.inr (.inr x0), .inl (v9 * (10 : Int32)), .inr (.inr x0)] (by decide +kernel) rfl ?_
      refine s_gR fl_7_36 rfl (by decide +kernel) (fun v10 => ?_)
      refine s_run (b := [(.aload_n 0, 1)]) 44 [some (.inr (.inr x0))] [.inr (.inr x0), .inr (.inr v10), .inl (v9 * (10 : Int32)), .inr (.inr x0)] (by decide +kernel) rfl ?_
      refine s_gI fl_7_53 rfl (by decide +kernel) (fun v11 => ?_)
      refine s_ba (by decide) (by decide +kernel) (fun v12 => ?_)
      refine s_run (b := [(.iadd, 1), (.bipush 48, 2), (.isub, 1)]) 52 [some (.inr (.inr x0))] [.inl (((v9 * (10 : Int32)) + v12) - (48 : Int32)), .inr (.inr x0)] (by decide +kernel) rfl ?_
      refine s_pI fl_7_100 (Or.inl rfl) rfl (by decide +kernel) (fun M13 => ?_)
      refine s_run (b := [(.aload_n 0, 1), (.dup, 1)]) 57 [some (.inr (.inr x0))] [.inr (.inr x0), .inr (.inr x0)] (by decide +kernel) rfl ?_
      refine s_gI fl_7_53 rfl (by decide +kernel) (fun v14 => ?_)
      refine s_run (b := [(.iconst 1, 1), (.iadd, 1)]) 62 [some (.inr (.inr x0))] [.inl (v14 + (1 : Int32)), .inr (.inr x0)] (by decide +kernel) rfl ?_
      refine s_pI fl_7_53 (Or.inl rfl) rfl (by decide +kernel) (fun M15 => ?_)
      refine s_run (b := [(.goto (-60), 3)]) 5 [some (.inr (.inr x0))] [] (by decide +kernel) rfl ?_
      exact s_lsub (ls' := [some (.inr (.inr x0))]) ⟨rfl, trivial⟩ (kk1 M15)
set_option maxRecDepth 20000 in
theorem L_X7_takeNumber_5 {l : Launch} {G : Gv} {lim : Nat × Nat} (M : Mem) (x0 : Nat)  (K : ((Mem)) → Option (Option Value × Mem)) (kk2_0 : ∀ r : Mem, SimR l G Y_X7_takeNumber lim (K r) 68 [some (.inr (.inr x0))] [] r) : Sim l G Y_X7_takeNumber lim (f_X7_takeNumber_L5 M x0 ) K 5 [some (.inr (.inr x0))] [] M :=
  s_iter (f := fun s : Mem => f_X7_takeNumber_B5 s x0 ) (hd := 5) (cl := fun s => [some (.inr (.inr x0))]) (cm := fun s => s) (xp := fun _ => 68) (xl := fun r => [some (.inr (.inr x0))]) (xm := fun r => r) (fun s K h1 h2 => B_X7_takeNumber_5 s x0  K (fun a_ => h1 a_) (fun a_ => h2 a_)) 1048576 M K kk2_0
def f_X7_takeNumber_J87 (M : Mem)  (y0 : Nat) (y1 : Int32) : Option (Mem) :=
  (pI M 7 y0 8 y1).bind fun M1 =>
  some M1
set_option maxRecDepth 20000 in
theorem J_X7_takeNumber_87 {l : Launch} {G : Gv} {lim : Nat × Nat} (M : Mem)  (y0 : Nat) (y1 : Int32)  : Sim l G Y_X7_takeNumber lim (f_X7_takeNumber_J87 M y0 y1) (fun z => some (none, z)) 87 [none] [.inl y1, .inr (.inr y0)] M := by
  unfold f_X7_takeNumber_J87
  refine s_pI fl_7_69 (Or.inl rfl) rfl (by decide +kernel) (fun M1 => ?_)
  exact s_vret (by decide +kernel) rfl
def f_X7_takeNumber (M : Mem) (x0 : Nat) : Option (Mem) :=
  (pI M 7 x0 11 (0 : Int32)).bind fun M1 =>
  (f_X7_takeNumber_L5 M1 x0 ).bind fun r2 =>
  (gI r2 7 x0 10).bind fun v3 =>
  (gI r2 7 x0 9).bind fun v4 =>
  (if (2 : Int32) < (v3 - v4) then
    f_X7_takeNumber_J87 r2  x0 (4 : Int32)
  else
    f_X7_takeNumber_J87 r2  x0 (2 : Int32))
set_option maxRecDepth 20000 in
theorem S_X7_takeNumber {l : Launch} {G : Gv} {lim : Nat × Nat} (M : Mem) (x0 : Nat) : Sim l G Y_X7_takeNumber lim (f_X7_takeNumber M x0) (fun z => some (none, z)) 0 [some (.inr (.inr x0))] [] M := by
  unfold f_X7_takeNumber
  refine s_run (b := [(.aload_n 0, 1), (.iconst 0, 1)]) 2 [some (.inr (.inr x0))] [.inl (0 : Int32), .inr (.inr x0)] (by decide +kernel) rfl ?_
  refine s_pI fl_7_100 (Or.inl rfl) rfl (by decide +kernel) (fun M1 => ?_)
  refine s_lsub (ls' := [some (.inr (.inr x0))]) ⟨rfl, trivial⟩ ?_
  refine sim_bind (L_X7_takeNumber_5 M1 x0  _ (fun r2 => ?_))
  change Sim l G Y_X7_takeNumber lim _ _ 68 [some (.inr (.inr x0))] [] r2
  refine s_run (b := [(.aload_n 0, 1), (.aload_n 0, 1)]) 70 [some (.inr (.inr x0))] [.inr (.inr x0), .inr (.inr x0)] (by decide +kernel) rfl ?_
  refine s_gI fl_7_53 rfl (by decide +kernel) (fun v3 => ?_)
  refine s_run (b := [(.aload_n 0, 1)]) 74 [some (.inr (.inr x0))] [.inr (.inr x0), .inl v3, .inr (.inr x0)] (by decide +kernel) rfl ?_
  refine s_gI fl_7_76 rfl (by decide +kernel) (fun v4 => ?_)
  refine s_run (b := [(.isub, 1), (.iconst 2, 1)]) 79 [some (.inr (.inr x0))] [.inl (2 : Int32), .inl (v3 - v4), .inr (.inr x0)] (by decide +kernel) rfl ?_
  refine s_ic_gt (tgt := 86) (off := 7) (by decide +kernel) (by decide) (fun h5 => ?_) (fun h5 => ?_)
  · skip
    refine s_run (b := [(.iconst 4, 1)]) 87 [some (.inr (.inr x0))] [.inl (4 : Int32), .inr (.inr x0)] (by decide +kernel) rfl ?_
    exact s_lsub (ls' := [none]) trivial (J_X7_takeNumber_87 r2  x0 (4 : Int32))
  · skip
    refine s_run (b := [(.iconst 2, 1), (.goto 4, 3)]) 87 [some (.inr (.inr x0))] [.inl (2 : Int32), .inr (.inr x0)] (by decide +kernel) rfl ?_
    exact s_lsub (ls' := [none]) trivial (J_X7_takeNumber_87 r2  x0 (2 : Int32))
set_option maxRecDepth 20000 in
theorem c_X7_takeNumber {l : Launch} {G : Gv} {M : Mem} {x0 : Nat} {z : Mem} (h : f_X7_takeNumber M x0 = some z) : MetS l G Y_X7_takeNumber [.inr (.inr x0)] M none z :=
  met_of (ls0 := [some (.inr (.inr x0))]) (by decide) rfl (lv_in (m := 0) rfl) (sl_le (Nat.le_of_ble_eq_true rfl)) (by rw [h]; rfl) (Or.inl ⟨rfl, rfl⟩) (S_X7_takeNumber M x0)
def f_X7_takeWord_B0 (M : Mem) (x0 : Nat)  : Option ((Mem) ⊕ ((Mem))) :=
  (gI M 7 x0 10).bind fun v1 =>
  (gI M 7 x0 7).bind fun v2 =>
  (if v2 ≤ v1 then
    some (.inr M)
  else
    (gR M 7 x0 5).bind fun v4 =>
    (gI M 7 x0 10).bind fun v5 =>
    (aI M 1 v4 v5).bind fun v6 =>
    (f_X7_isLetter M v6).bind fun v7 =>
    (if v7 = 0 then
      some (.inr M)
    else
      (gI M 7 x0 10).bind fun v9 =>
      (pI M 7 x0 10 (v9 + (1 : Int32))).bind fun M10 =>
      some (.inl M10)))
def f_X7_takeWord_L0 (M : Mem) (x0 : Nat)  : Option ((Mem)) := iter (fun s : Mem => f_X7_takeWord_B0 s x0 ) 1048576 M
set_option maxRecDepth 20000 in
theorem B_X7_takeWord_0 {l : Launch} {G : Gv} {lim : Nat × Nat} (M : Mem) (x0 : Nat)  (K : (Mem) ⊕ ((Mem)) → Option (Option Value × Mem)) (kk1 : ∀ (s_ : Mem), SimR l G Y_X7_takeWord lim (K (.inl s_)) 0 [some (.inr (.inr x0))] [] s_) (kk2_0 : ∀ (s_ : Mem), SimR l G Y_X7_takeWord lim (K (.inr s_)) 39 [some (.inr (.inr x0))] [] s_) : Sim l G Y_X7_takeWord lim (f_X7_takeWord_B0 M x0 ) K 0 [some (.inr (.inr x0))] [] M := by
  unfold f_X7_takeWord_B0
  refine s_run (b := [(.aload_n 0, 1)]) 1 [some (.inr (.inr x0))] [.inr (.inr x0)] (by decide +kernel) rfl ?_
  refine s_gI fl_7_53 rfl (by decide +kernel) (fun v1 => ?_)
  refine s_run (b := [(.aload_n 0, 1)]) 5 [some (.inr (.inr x0))] [.inr (.inr x0), .inl v1] (by decide +kernel) rfl ?_
  refine s_gI fl_7_50 rfl (by decide +kernel) (fun v2 => ?_)
  refine s_ic_ge (tgt := 39) (off := 31) (by decide +kernel) (by decide) (fun h3 => ?_) (fun h3 => ?_)
  · skip
    exact s_lsub (ls' := [some (.inr (.inr x0))]) ⟨rfl, trivial⟩ (kk2_0 M)
  · skip
    refine s_run (b := [(.aload_n 0, 1)]) 12 [some (.inr (.inr x0))] [.inr (.inr x0)] (by decide +kernel) rfl ?_
    refine s_gR fl_7_36 rfl (by decide +kernel) (fun v4 => ?_)
    refine s_run (b := [(.aload_n 0, 1)]) 16 [some (.inr (.inr x0))] [.inr (.inr x0), .inr (.inr v4)] (by decide +kernel) rfl ?_
    refine s_gI fl_7_53 rfl (by decide +kernel) (fun v5 => ?_)
    refine s_ba (by decide) (by decide +kernel) (fun v6 => ?_)
    refine s_cS (Z := Y_X7_isLetter) (vs := [.inl v6]) (st := []) (rO := fun z => some (.inl z)) (mO := fun _ => M) zk_X7_isLetter q524 q523 ⟨by decide, by decide⟩ ⟨rfl, rfl⟩ rfl rfl (Nat.le_of_ble_eq_true rfl) (by decide +kernel) (fun z hz => c_X7_isLetter hz) (fun v7 => ?_)
    change Sim l G Y_X7_takeWord lim _ _ 23 [some (.inr (.inr x0))] [.inl v7] M
    refine s_if_eq (tgt := 39) (off := 16) (by decide +kernel) (by decide) (fun h8 => ?_) (fun h8 => ?_)
    · skip
      exact s_lsub (ls' := [some (.inr (.inr x0))]) ⟨rfl, trivial⟩ (kk2_0 M)
    · skip
      refine s_run (b := [(.aload_n 0, 1), (.dup, 1)]) 28 [some (.inr (.inr x0))] [.inr (.inr x0), .inr (.inr x0)] (by decide +kernel) rfl ?_
      refine s_gI fl_7_53 rfl (by decide +kernel) (fun v9 => ?_)
      refine s_run (b := [(.iconst 1, 1), (.iadd, 1)]) 33 [some (.inr (.inr x0))] [.inl (v9 + (1 : Int32)), .inr (.inr x0)] (by decide +kernel) rfl ?_
      refine s_pI fl_7_53 (Or.inl rfl) rfl (by decide +kernel) (fun M10 => ?_)
      refine s_run (b := [(.goto (-36), 3)]) 0 [some (.inr (.inr x0))] [] (by decide +kernel) rfl ?_
      exact s_lsub (ls' := [some (.inr (.inr x0))]) ⟨rfl, trivial⟩ (kk1 M10)
set_option maxRecDepth 20000 in
theorem L_X7_takeWord_0 {l : Launch} {G : Gv} {lim : Nat × Nat} (M : Mem) (x0 : Nat)  (K : ((Mem)) → Option (Option Value × Mem)) (kk2_0 : ∀ r : Mem, SimR l G Y_X7_takeWord lim (K r) 39 [some (.inr (.inr x0))] [] r) : Sim l G Y_X7_takeWord lim (f_X7_takeWord_L0 M x0 ) K 0 [some (.inr (.inr x0))] [] M :=
  s_iter (f := fun s : Mem => f_X7_takeWord_B0 s x0 ) (hd := 0) (cl := fun s => [some (.inr (.inr x0))]) (cm := fun s => s) (xp := fun _ => 39) (xl := fun r => [some (.inr (.inr x0))]) (xm := fun r => r) (fun s K h1 h2 => B_X7_takeWord_0 s x0  K (fun a_ => h1 a_) (fun a_ => h2 a_)) 1048576 M K kk2_0
def f_X7_takeWord (M : Mem) (x0 : Nat) : Option (Mem) :=
  (f_X7_takeWord_L0 M x0 ).bind fun r1 =>
  (pI r1 7 x0 8 (1 : Int32)).bind fun M2 =>
  some M2
set_option maxRecDepth 20000 in
theorem S_X7_takeWord {l : Launch} {G : Gv} {lim : Nat × Nat} (M : Mem) (x0 : Nat) : Sim l G Y_X7_takeWord lim (f_X7_takeWord M x0) (fun z => some (none, z)) 0 [some (.inr (.inr x0))] [] M := by
  unfold f_X7_takeWord
  refine s_lsub (ls' := [some (.inr (.inr x0))]) ⟨rfl, trivial⟩ ?_
  refine sim_bind (L_X7_takeWord_0 M x0  _ (fun r1 => ?_))
  change Sim l G Y_X7_takeWord lim _ _ 39 [some (.inr (.inr x0))] [] r1
  refine s_run (b := [(.aload_n 0, 1), (.iconst 1, 1)]) 41 [some (.inr (.inr x0))] [.inl (1 : Int32), .inr (.inr x0)] (by decide +kernel) rfl ?_
  refine s_pI fl_7_69 (Or.inl rfl) rfl (by decide +kernel) (fun M2 => ?_)
  exact s_vret (by decide +kernel) rfl
set_option maxRecDepth 20000 in
theorem c_X7_takeWord {l : Launch} {G : Gv} {M : Mem} {x0 : Nat} {z : Mem} (h : f_X7_takeWord M x0 = some z) : MetS l G Y_X7_takeWord [.inr (.inr x0)] M none z :=
  met_of (ls0 := [some (.inr (.inr x0))]) (by decide) rfl (lv_in (m := 0) rfl) (sl_le (Nat.le_of_ble_eq_true rfl)) (by rw [h]; rfl) (Or.inl ⟨rfl, rfl⟩) (S_X7_takeWord M x0)
def f_X7_takeToken_J39 (M : Mem) (x0 : Nat)  : Option ((Mem) ⊕ ((Mem))) :=
  (gI M 7 x0 10).bind fun v1 =>
  (pI M 7 x0 10 (v1 + (1 : Int32))).bind fun M2 =>
  some (.inl M2)
set_option maxRecDepth 20000 in
theorem J_X7_takeToken_39 {l : Launch} {G : Gv} {lim : Nat × Nat} (M : Mem) (x0 : Nat)  (K : (Mem) ⊕ ((Mem)) → Option (Option Value × Mem)) (kk1 : ∀ (s_ : Mem), SimR l G Y_X7_takeToken lim (K (.inl s_)) 0 [some (.inr (.inr x0))] [] s_) (kk2_0 : ∀ (s_ : Mem), SimR l G Y_X7_takeToken lim (K (.inr s_)) 52 [some (.inr (.inr x0))] [] s_) : Sim l G Y_X7_takeToken lim (f_X7_takeToken_J39 M x0) K 39 [some (.inr (.inr x0))] [] M := by
  unfold f_X7_takeToken_J39
  refine s_run (b := [(.aload_n 0, 1), (.dup, 1)]) 41 [some (.inr (.inr x0))] [.inr (.inr x0), .inr (.inr x0)] (by decide +kernel) rfl ?_
  refine s_gI fl_7_53 rfl (by decide +kernel) (fun v1 => ?_)
  refine s_run (b := [(.iconst 1, 1), (.iadd, 1)]) 46 [some (.inr (.inr x0))] [.inl (v1 + (1 : Int32)), .inr (.inr x0)] (by decide +kernel) rfl ?_
  refine s_pI fl_7_53 (Or.inl rfl) rfl (by decide +kernel) (fun M2 => ?_)
  refine s_run (b := [(.goto (-49), 3)]) 0 [some (.inr (.inr x0))] [] (by decide +kernel) rfl ?_
  exact s_lsub (ls' := [some (.inr (.inr x0))]) ⟨rfl, trivial⟩ (kk1 M2)
def f_X7_takeToken_B0 (M : Mem) (x0 : Nat)  : Option ((Mem) ⊕ ((Mem))) :=
  (gI M 7 x0 10).bind fun v1 =>
  (gI M 7 x0 7).bind fun v2 =>
  (if v2 ≤ v1 then
    some (.inr M)
  else
    (gR M 7 x0 5).bind fun v4 =>
    (gI M 7 x0 10).bind fun v5 =>
    (aI M 1 v4 v5).bind fun v6 =>
    (if v6 = (10 : Int32) then
      f_X7_takeToken_J39 M x0 
    else
      (gR M 7 x0 5).bind fun v8 =>
      (gI M 7 x0 10).bind fun v9 =>
      (aI M 1 v8 v9).bind fun v10 =>
      (if v10 = (32 : Int32) then
        f_X7_takeToken_J39 M x0 
      else
        some (.inr M))))
def f_X7_takeToken_L0 (M : Mem) (x0 : Nat)  : Option ((Mem)) := iter (fun s : Mem => f_X7_takeToken_B0 s x0 ) 1048576 M
set_option maxRecDepth 20000 in
theorem B_X7_takeToken_0 {l : Launch} {G : Gv} {lim : Nat × Nat} (M : Mem) (x0 : Nat)  (K : (Mem) ⊕ ((Mem)) → Option (Option Value × Mem)) (kk1 : ∀ (s_ : Mem), SimR l G Y_X7_takeToken lim (K (.inl s_)) 0 [some (.inr (.inr x0))] [] s_) (kk2_0 : ∀ (s_ : Mem), SimR l G Y_X7_takeToken lim (K (.inr s_)) 52 [some (.inr (.inr x0))] [] s_) : Sim l G Y_X7_takeToken lim (f_X7_takeToken_B0 M x0 ) K 0 [some (.inr (.inr x0))] [] M := by
  unfold f_X7_takeToken_B0
  refine s_run (b := [(.aload_n 0, 1)]) 1 [some (.inr (.inr x0))] [.inr (.inr x0)] (by decide +kernel) rfl ?_
  refine s_gI fl_7_53 rfl (by decide +kernel) (fun v1 => ?_)
  refine s_run (b := [(.aload_n 0, 1)]) 5 [some (.inr (.inr x0))] [.inr (.inr x0), .inl v1] (by decide +kernel) rfl ?_
  refine s_gI fl_7_50 rfl (by decide +kernel) (fun v2 => ?_)
  refine s_ic_ge (tgt := 52) (off := 44) (by decide +kernel) (by decide) (fun h3 => ?_) (fun h3 => ?_)
  · skip
    exact s_lsub (ls' := [some (.inr (.inr x0))]) ⟨rfl, trivial⟩ (kk2_0 M)
  · skip
    refine s_run (b := [(.aload_n 0, 1)]) 12 [some (.inr (.inr x0))] [.inr (.inr x0)] (by decide +kernel) rfl ?_
    refine s_gR fl_7_36 rfl (by decide +kernel) (fun v4 => ?_)
    refine s_run (b := [(.aload_n 0, 1)]) 16 [some (.inr (.inr x0))] [.inr (.inr x0), .inr (.inr v4)] (by decide +kernel) rfl ?_
    refine s_gI fl_7_53 rfl (by decide +kernel) (fun v5 => ?_)
    refine s_ba (by decide) (by decide +kernel) (fun v6 => ?_)
    refine s_run (b := [(.bipush 10, 2)]) 22 [some (.inr (.inr x0))] [.inl (10 : Int32), .inl v6] (by decide +kernel) rfl ?_
    refine s_ic_eq (tgt := 39) (off := 17) (by decide +kernel) (by decide) (fun h7 => ?_) (fun h7 => ?_)
    · skip
      exact s_lsub (ls' := [some (.inr (.inr x0))]) ⟨rfl, trivial⟩ (J_X7_takeToken_39 M x0  K kk1 kk2_0)
    · skip
      refine s_run (b := [(.aload_n 0, 1)]) 26 [some (.inr (.inr x0))] [.inr (.inr x0)] (by decide +kernel) rfl ?_
      refine s_gR fl_7_36 rfl (by decide +kernel) (fun v8 => ?_)
      refine s_run (b := [(.aload_n 0, 1)]) 30 [some (.inr (.inr x0))] [.inr (.inr x0), .inr (.inr v8)] (by decide +kernel) rfl ?_
      refine s_gI fl_7_53 rfl (by decide +kernel) (fun v9 => ?_)
      refine s_ba (by decide) (by decide +kernel) (fun v10 => ?_)
      refine s_run (b := [(.bipush 32, 2)]) 36 [some (.inr (.inr x0))] [.inl (32 : Int32), .inl v10] (by decide +kernel) rfl ?_
      refine s_ic_ne (tgt := 52) (off := 16) (by decide +kernel) (by decide) (fun h11 => ?_) (fun h11 => ?_)
      · skip
        exact s_lsub (ls' := [some (.inr (.inr x0))]) ⟨rfl, trivial⟩ (J_X7_takeToken_39 M x0  K kk1 kk2_0)
      · skip
        exact s_lsub (ls' := [some (.inr (.inr x0))]) ⟨rfl, trivial⟩ (kk2_0 M)
set_option maxRecDepth 20000 in
theorem L_X7_takeToken_0 {l : Launch} {G : Gv} {lim : Nat × Nat} (M : Mem) (x0 : Nat)  (K : ((Mem)) → Option (Option Value × Mem)) (kk2_0 : ∀ r : Mem, SimR l G Y_X7_takeToken lim (K r) 52 [some (.inr (.inr x0))] [] r) : Sim l G Y_X7_takeToken lim (f_X7_takeToken_L0 M x0 ) K 0 [some (.inr (.inr x0))] [] M :=
  s_iter (f := fun s : Mem => f_X7_takeToken_B0 s x0 ) (hd := 0) (cl := fun s => [some (.inr (.inr x0))]) (cm := fun s => s) (xp := fun _ => 52) (xl := fun r => [some (.inr (.inr x0))]) (xm := fun r => r) (fun s K h1 h2 => B_X7_takeToken_0 s x0  K (fun a_ => h1 a_) (fun a_ => h2 a_)) 1048576 M K kk2_0
def f_X7_takeToken_J143 (M : Mem) (x0 : Nat) (y0 : Nat) (y1 : Int32) : Option (Mem) :=
  (pI M 7 y0 8 y1).bind fun M1 =>
  (gI M1 7 x0 10).bind fun v2 =>
  (pI M1 7 x0 10 (v2 + (1 : Int32))).bind fun M3 =>
  some M3
set_option maxRecDepth 20000 in
theorem J_X7_takeToken_143 {l : Launch} {G : Gv} {lim : Nat × Nat} (M : Mem) (x0 : Nat) (y0 : Nat) (y1 : Int32)  : Sim l G Y_X7_takeToken lim (f_X7_takeToken_J143 M x0 y0 y1) (fun z => some (none, z)) 143 [some (.inr (.inr x0))] [.inl y1, .inr (.inr y0)] M := by
  unfold f_X7_takeToken_J143
  refine s_pI fl_7_69 (Or.inl rfl) rfl (by decide +kernel) (fun M1 => ?_)
  refine s_run (b := [(.aload_n 0, 1), (.dup, 1)]) 148 [some (.inr (.inr x0))] [.inr (.inr x0), .inr (.inr x0)] (by decide +kernel) rfl ?_
  refine s_gI fl_7_53 rfl (by decide +kernel) (fun v2 => ?_)
  refine s_run (b := [(.iconst 1, 1), (.iadd, 1)]) 153 [some (.inr (.inr x0))] [.inl (v2 + (1 : Int32)), .inr (.inr x0)] (by decide +kernel) rfl ?_
  refine s_pI fl_7_53 (Or.inl rfl) rfl (by decide +kernel) (fun M3 => ?_)
  exact s_vret (by decide +kernel) rfl
def f_X7_takeToken (M : Mem) (x0 : Nat) : Option (Mem) :=
  (f_X7_takeToken_L0 M x0 ).bind fun r1 =>
  (gI r1 7 x0 10).bind fun v2 =>
  (pI r1 7 x0 9 v2).bind fun M3 =>
  (gI M3 7 x0 10).bind fun v4 =>
  (gI M3 7 x0 7).bind fun v5 =>
  (if v4 < v5 then
    (gR M3 7 x0 5).bind fun v7 =>
    (gI M3 7 x0 10).bind fun v8 =>
    (aI M3 1 v7 v8).bind fun v9 =>
    (f_X7_isLetter M3 v9).bind fun v10 =>
    (if v10 = 0 then
      (gR M3 7 x0 5).bind fun v12 =>
      (gI M3 7 x0 10).bind fun v13 =>
      (aI M3 1 v12 v13).bind fun v14 =>
      (f_X7_isDigit M3 v14).bind fun v15 =>
      (if v15 = 0 then
        (gR M3 7 x0 5).bind fun v17 =>
        (gI M3 7 x0 10).bind fun v18 =>
        (aI M3 1 v17 v18).bind fun v19 =>
        (if v19 = (59 : Int32) then
          f_X7_takeToken_J143 M3 x0 x0 (3 : Int32)
        else
          f_X7_takeToken_J143 M3 x0 x0 (4 : Int32))
      else
        (ob M3 7 x0).bind fun _ => (f_X7_takeNumber M3 x0).bind fun z21 =>
        some z21)
    else
      (ob M3 7 x0).bind fun _ => (f_X7_takeWord M3 x0).bind fun z22 =>
      some z22)
  else
    (pI M3 7 x0 8 (0 : Int32)).bind fun M23 =>
    some M23)
set_option maxRecDepth 20000 in
theorem S_X7_takeToken {l : Launch} {G : Gv} {lim : Nat × Nat} (M : Mem) (x0 : Nat) : Sim l G Y_X7_takeToken lim (f_X7_takeToken M x0) (fun z => some (none, z)) 0 [some (.inr (.inr x0))] [] M := by
  unfold f_X7_takeToken
  refine s_lsub (ls' := [some (.inr (.inr x0))]) ⟨rfl, trivial⟩ ?_
  refine sim_bind (L_X7_takeToken_0 M x0  _ (fun r1 => ?_))
  change Sim l G Y_X7_takeToken lim _ _ 52 [some (.inr (.inr x0))] [] r1
  refine s_run (b := [(.aload_n 0, 1), (.aload_n 0, 1)]) 54 [some (.inr (.inr x0))] [.inr (.inr x0), .inr (.inr x0)] (by decide +kernel) rfl ?_
  refine s_gI fl_7_53 rfl (by decide +kernel) (fun v2 => ?_)
  refine s_pI fl_7_76 (Or.inl rfl) rfl (by decide +kernel) (fun M3 => ?_)
  refine s_run (b := [(.aload_n 0, 1)]) 61 [some (.inr (.inr x0))] [.inr (.inr x0)] (by decide +kernel) rfl ?_
  refine s_gI fl_7_53 rfl (by decide +kernel) (fun v4 => ?_)
  refine s_run (b := [(.aload_n 0, 1)]) 65 [some (.inr (.inr x0))] [.inr (.inr x0), .inl v4] (by decide +kernel) rfl ?_
  refine s_gI fl_7_50 rfl (by decide +kernel) (fun v5 => ?_)
  refine s_ic_lt (tgt := 79) (off := 11) (by decide +kernel) (by decide) (fun h6 => ?_) (fun h6 => ?_)
  · skip
    refine s_run (b := [(.aload_n 0, 1)]) 80 [some (.inr (.inr x0))] [.inr (.inr x0)] (by decide +kernel) rfl ?_
    refine s_gR fl_7_36 rfl (by decide +kernel) (fun v7 => ?_)
    refine s_run (b := [(.aload_n 0, 1)]) 84 [some (.inr (.inr x0))] [.inr (.inr x0), .inr (.inr v7)] (by decide +kernel) rfl ?_
    refine s_gI fl_7_53 rfl (by decide +kernel) (fun v8 => ?_)
    refine s_ba (by decide) (by decide +kernel) (fun v9 => ?_)
    refine s_cS (Z := Y_X7_isLetter) (vs := [.inl v9]) (st := []) (rO := fun z => some (.inl z)) (mO := fun _ => M3) zk_X7_isLetter q524 q523 ⟨by decide, by decide⟩ ⟨rfl, rfl⟩ rfl rfl (Nat.le_of_ble_eq_true rfl) (by decide +kernel) (fun z hz => c_X7_isLetter hz) (fun v10 => ?_)
    change Sim l G Y_X7_takeToken lim _ _ 91 [some (.inr (.inr x0))] [.inl v10] M3
    refine s_if_eq (tgt := 101) (off := 10) (by decide +kernel) (by decide) (fun h11 => ?_) (fun h11 => ?_)
    · skip
      refine s_run (b := [(.aload_n 0, 1)]) 102 [some (.inr (.inr x0))] [.inr (.inr x0)] (by decide +kernel) rfl ?_
      refine s_gR fl_7_36 rfl (by decide +kernel) (fun v12 => ?_)
      refine s_run (b := [(.aload_n 0, 1)]) 106 [some (.inr (.inr x0))] [.inr (.inr x0), .inr (.inr v12)] (by decide +kernel) rfl ?_
      refine s_gI fl_7_53 rfl (by decide +kernel) (fun v13 => ?_)
      refine s_ba (by decide) (by decide +kernel) (fun v14 => ?_)
      refine s_cS (Z := Y_X7_isDigit) (vs := [.inl v14]) (st := []) (rO := fun z => some (.inl z)) (mO := fun _ => M3) zk_X7_isDigit q531 q530 ⟨by decide, by decide⟩ ⟨rfl, rfl⟩ rfl rfl (Nat.le_of_ble_eq_true rfl) (by decide +kernel) (fun z hz => c_X7_isDigit hz) (fun v15 => ?_)
      change Sim l G Y_X7_takeToken lim _ _ 113 [some (.inr (.inr x0))] [.inl v15] M3
      refine s_if_eq (tgt := 123) (off := 10) (by decide +kernel) (by decide) (fun h16 => ?_) (fun h16 => ?_)
      · skip
        refine s_run (b := [(.aload_n 0, 1), (.aload_n 0, 1)]) 125 [some (.inr (.inr x0))] [.inr (.inr x0), .inr (.inr x0)] (by decide +kernel) rfl ?_
        refine s_gR fl_7_36 rfl (by decide +kernel) (fun v17 => ?_)
        refine s_run (b := [(.aload_n 0, 1)]) 129 [some (.inr (.inr x0))] [.inr (.inr x0), .inr (.inr v17), .inr (.inr x0)] (by decide +kernel) rfl ?_
        refine s_gI fl_7_53 rfl (by decide +kernel) (fun v18 => ?_)
        refine s_ba (by decide) (by decide +kernel) (fun v19 => ?_)
        refine s_run (b := [(.bipush 59, 2)]) 135 [some (.inr (.inr x0))] [.inl (59 : Int32), .inl v19, .inr (.inr x0)] (by decide +kernel) rfl ?_
        refine s_ic_ne (tgt := 142) (off := 7) (by decide +kernel) (by decide) (fun h20 => ?_) (fun h20 => ?_)
        · skip
          refine s_run (b := [(.iconst 3, 1), (.goto 4, 3)]) 143 [some (.inr (.inr x0))] [.inl (3 : Int32), .inr (.inr x0)] (by decide +kernel) rfl ?_
          exact s_lsub (ls' := [some (.inr (.inr x0))]) ⟨rfl, trivial⟩ (J_X7_takeToken_143 M3 x0 x0 (3 : Int32))
        · skip
          refine s_run (b := [(.iconst 4, 1)]) 143 [some (.inr (.inr x0))] [.inl (4 : Int32), .inr (.inr x0)] (by decide +kernel) rfl ?_
          exact s_lsub (ls' := [some (.inr (.inr x0))]) ⟨rfl, trivial⟩ (J_X7_takeToken_143 M3 x0 x0 (4 : Int32))
      · skip
        refine s_run (b := [(.aload_n 0, 1)]) 117 [some (.inr (.inr x0))] [.inr (.inr x0)] (by decide +kernel) rfl ?_
        refine s_cV (Z := Y_X7_takeNumber) (c := 7) (vs := []) (st := []) (rO := fun _ => none) (mO := fun z => z) zk_X7_takeNumber zi_X7_takeNumber q533 rfl ⟨by decide, by decide⟩ ⟨rfl, rfl⟩ rfl rfl (Nat.le_of_ble_eq_true rfl) (by decide +kernel) (fun z hz => c_X7_takeNumber hz) (fun z21 => ?_)
        change Sim l G Y_X7_takeToken lim _ _ 120 [some (.inr (.inr x0))] [] z21
        refine s_run (b := [(.goto 36, 3)]) 156 [some (.inr (.inr x0))] [] (by decide +kernel) rfl ?_
        exact s_vret (by decide +kernel) rfl
    · skip
      refine s_run (b := [(.aload_n 0, 1)]) 95 [some (.inr (.inr x0))] [.inr (.inr x0)] (by decide +kernel) rfl ?_
      refine s_cV (Z := Y_X7_takeWord) (c := 7) (vs := []) (st := []) (rO := fun _ => none) (mO := fun z => z) zk_X7_takeWord zi_X7_takeWord q526 rfl ⟨by decide, by decide⟩ ⟨rfl, rfl⟩ rfl rfl (Nat.le_of_ble_eq_true rfl) (by decide +kernel) (fun z hz => c_X7_takeWord hz) (fun z22 => ?_)
      change Sim l G Y_X7_takeToken lim _ _ 98 [some (.inr (.inr x0))] [] z22
      refine s_run (b := [(.goto 58, 3)]) 156 [some (.inr (.inr x0))] [] (by decide +kernel) rfl ?_
      exact s_vret (by decide +kernel) rfl
  · skip
    refine s_run (b := [(.aload_n 0, 1), (.iconst 0, 1)]) 73 [some (.inr (.inr x0))] [.inl (0 : Int32), .inr (.inr x0)] (by decide +kernel) rfl ?_
    refine s_pI fl_7_69 (Or.inl rfl) rfl (by decide +kernel) (fun M23 => ?_)
    refine s_run (b := [(.goto 80, 3)]) 156 [some (.inr (.inr x0))] [] (by decide +kernel) rfl ?_
    exact s_vret (by decide +kernel) rfl
set_option maxRecDepth 20000 in
theorem c_X7_takeToken {l : Launch} {G : Gv} {M : Mem} {x0 : Nat} {z : Mem} (h : f_X7_takeToken M x0 = some z) : MetS l G Y_X7_takeToken [.inr (.inr x0)] M none z :=
  met_of (ls0 := [some (.inr (.inr x0))]) (by decide) rfl (lv_in (m := 0) rfl) (sl_le (Nat.le_of_ble_eq_true rfl)) (by rw [h]; rfl) (Or.inl ⟨rfl, rfl⟩) (S_X7_takeToken M x0)
def f_X7_isHere_B20 (M : Mem) (x0 : Nat) (x1 : Nat) (x2 : Int32) : Option ((Int32) ⊕ ((Unit) ⊕ (Unit))) :=
  (strLen x1).bind fun v1 =>
  (if v1 ≤ x2 then
    some (.inr (.inr ()))
  else
    (gR M 7 x0 5).bind fun v3 =>
    (gI M 7 x0 9).bind fun v4 =>
    (aI M 1 v3 (v4 + x2)).bind fun v5 =>
    (strAt x1 x2).bind fun v6 =>
    (if v5 = v6 then
      some (.inl (x2 + (1 : Int32)))
    else
      some (.inr (.inl ()))))
def f_X7_isHere_L20 (M : Mem) (x0 : Nat) (x1 : Nat) (x2 : Int32) : Option ((Unit) ⊕ (Unit)) := iter (fun s : Int32 => f_X7_isHere_B20 M x0 x1 s) 1048576 x2
set_option maxRecDepth 20000 in
theorem B_X7_isHere_20 {l : Launch} {G : Gv} {lim : Nat × Nat} (M : Mem) (x0 : Nat) (x1 : Nat) (x2 : Int32) (K : (Int32) ⊕ ((Unit) ⊕ (Unit)) → Option (Option Value × Mem)) (kk1 : ∀ (s2 : Int32), SimR l G Y_X7_isHere lim (K (.inl s2)) 20 [some (.inr (.inr x0)), some (.inr (.inr x1)), some (.inl s2)] [] M) (kk2_0 : SimR l G Y_X7_isHere lim (K (.inr (.inl ()))) 47 [none, none, none] [] M) (kk2_1 : SimR l G Y_X7_isHere lim (K (.inr (.inr ()))) 55 [none, none, none] [] M) : Sim l G Y_X7_isHere lim (f_X7_isHere_B20 M x0 x1 x2) K 20 [some (.inr (.inr x0)), some (.inr (.inr x1)), some (.inl x2)] [] M := by
  unfold f_X7_isHere_B20
  refine s_run (b := [(.iload_n 2, 1), (.aload_n 1, 1)]) 22 [some (.inr (.inr x0)), some (.inr (.inr x1)), some (.inl x2)] [.inr (.inr x1), .inl x2] (by decide +kernel) rfl ?_
  refine s_strLen q569 ⟨by decide, by decide⟩ (Nat.le_of_ble_eq_true rfl) (by decide +kernel) (fun v1 => ?_)
  refine s_ic_ge (tgt := 55) (off := 30) (by decide +kernel) (by decide) (fun h2 => ?_) (fun h2 => ?_)
  · skip
    exact s_lsub (ls' := [none, none, none]) trivial (kk2_1 )
  · skip
    refine s_run (b := [(.aload_n 0, 1)]) 29 [some (.inr (.inr x0)), some (.inr (.inr x1)), some (.inl x2)] [.inr (.inr x0)] (by decide +kernel) rfl ?_
    refine s_gR fl_7_36 rfl (by decide +kernel) (fun v3 => ?_)
    refine s_run (b := [(.aload_n 0, 1)]) 33 [some (.inr (.inr x0)), some (.inr (.inr x1)), some (.inl x2)] [.inr (.inr x0), .inr (.inr v3)] (by decide +kernel) rfl ?_
    refine s_gI fl_7_76 rfl (by decide +kernel) (fun v4 => ?_)
    refine s_run (b := [(.iload_n 2, 1), (.iadd, 1)]) 38 [some (.inr (.inr x0)), some (.inr (.inr x1)), some (.inl x2)] [.inl (v4 + x2), .inr (.inr v3)] (by decide +kernel) rfl ?_
    refine s_ba (by decide) (by decide +kernel) (fun v5 => ?_)
    refine s_run (b := [(.aload_n 1, 1), (.iload_n 2, 1)]) 41 [some (.inr (.inr x0)), some (.inr (.inr x1)), some (.inl x2)] [.inl x2, .inr (.inr x1), .inl v5] (by decide +kernel) rfl ?_
    refine s_strAt q579 ⟨by decide, by decide⟩ (Nat.le_of_ble_eq_true rfl) (by decide +kernel) (fun v6 => ?_)
    refine s_ic_eq (tgt := 49) (off := 5) (by decide +kernel) (by decide) (fun h7 => ?_) (fun h7 => ?_)
    · skip
      refine s_run (b := [(.iinc 2 1, 3), (.goto (-32), 3)]) 20 [some (.inr (.inr x0)), some (.inr (.inr x1)), some (.inl (x2 + (1 : Int32)))] [] (by decide +kernel) rfl ?_
      exact s_lsub (ls' := [some (.inr (.inr x0)), some (.inr (.inr x1)), some (.inl (x2 + (1 : Int32)))]) ⟨rfl, ⟨rfl, ⟨rfl, trivial⟩⟩⟩ (kk1 (x2 + (1 : Int32)))
    · skip
      exact s_lsub (ls' := [none, none, none]) trivial (kk2_0 )
set_option maxRecDepth 20000 in
theorem L_X7_isHere_20 {l : Launch} {G : Gv} {lim : Nat × Nat} (M : Mem) (x0 : Nat) (x1 : Nat) (x2 : Int32) (K : ((Unit) ⊕ (Unit)) → Option (Option Value × Mem)) (kk2_0 : ∀ r : Unit, SimR l G Y_X7_isHere lim (K (.inl r)) 47 [none, none, none] [] M) (kk2_1 : ∀ r : Unit, SimR l G Y_X7_isHere lim (K (.inr r)) 55 [none, none, none] [] M) : Sim l G Y_X7_isHere lim (f_X7_isHere_L20 M x0 x1 x2) K 20 [some (.inr (.inr x0)), some (.inr (.inr x1)), some (.inl x2)] [] M :=
  s_iter (f := fun s : Int32 => f_X7_isHere_B20 M x0 x1 s) (hd := 20) (cl := fun s => [some (.inr (.inr x0)), some (.inr (.inr x1)), some (.inl s)]) (cm := fun s => M) (xp := (fun r => match r with | .inl r => 47 | .inr r => 55)) (xl := (fun r => match r with | .inl r => [none, none, none] | .inr r => [none, none, none])) (xm := (fun r => match r with | .inl r => M | .inr r => M)) (fun s K h1 h2 => B_X7_isHere_20 M x0 x1 s K (fun a2 => h1 a2) (h2 (.inl ())) (h2 (.inr ()))) 1048576 x2 K (fun r => by
    rcases r with r | r
    · exact kk2_0 r
    · exact kk2_1 r)
def f_X7_isHere (M : Mem) (x0 : Nat) (x1 : Nat) : Option (Int32) :=
  (gI M 7 x0 10).bind fun v1 =>
  (gI M 7 x0 9).bind fun v2 =>
  (strLen x1).bind fun v3 =>
  (if (v1 - v2) = v3 then
    ((f_X7_isHere_L20 M x0 x1 (0 : Int32)).bind fun r5 => match r5 with
    | .inl r5 => some (0 : Int32)
    | .inr r5 => some (1 : Int32))
  else
    some (0 : Int32))
set_option maxRecDepth 20000 in
theorem S_X7_isHere {l : Launch} {G : Gv} {lim : Nat × Nat} (M : Mem) (x0 : Nat) (x1 : Nat) : Sim l G Y_X7_isHere lim (f_X7_isHere M x0 x1) (fun z => some (some (.int z), M)) 0 [some (.inr (.inr x0)), some (.inr (.inr x1)), none] [] M := by
  unfold f_X7_isHere
  refine s_run (b := [(.aload_n 0, 1)]) 1 [some (.inr (.inr x0)), some (.inr (.inr x1)), none] [.inr (.inr x0)] (by decide +kernel) rfl ?_
  refine s_gI fl_7_53 rfl (by decide +kernel) (fun v1 => ?_)
  refine s_run (b := [(.aload_n 0, 1)]) 5 [some (.inr (.inr x0)), some (.inr (.inr x1)), none] [.inr (.inr x0), .inl v1] (by decide +kernel) rfl ?_
  refine s_gI fl_7_76 rfl (by decide +kernel) (fun v2 => ?_)
  refine s_run (b := [(.isub, 1), (.aload_n 1, 1)]) 10 [some (.inr (.inr x0)), some (.inr (.inr x1)), none] [.inr (.inr x1), .inl (v1 - v2)] (by decide +kernel) rfl ?_
  refine s_strLen q569 ⟨by decide, by decide⟩ (Nat.le_of_ble_eq_true rfl) (by decide +kernel) (fun v3 => ?_)
  refine s_ic_eq (tgt := 18) (off := 5) (by decide +kernel) (by decide) (fun h4 => ?_) (fun h4 => ?_)
  · skip
    refine s_run (b := [(.iconst 0, 1), (.istore_n 2, 1)]) 20 [some (.inr (.inr x0)), some (.inr (.inr x1)), some (.inl (0 : Int32))] [] (by decide +kernel) rfl ?_
    refine s_lsub (ls' := [some (.inr (.inr x0)), some (.inr (.inr x1)), some (.inl (0 : Int32))]) ⟨rfl, ⟨rfl, ⟨rfl, trivial⟩⟩⟩ ?_
    refine sim_bind (L_X7_isHere_20 M x0 x1 (0 : Int32) _ (fun r5 => ?_) (fun r5 => ?_))
    · change Sim l G Y_X7_isHere lim _ _ 47 [none, none, none] [] M
      refine s_run (b := [(.iconst 0, 1)]) 48 [none, none, none] [.inl (0 : Int32)] (by decide +kernel) rfl ?_
      exact s_bret (Or.inl rfl) (by decide +kernel) rfl
    · change Sim l G Y_X7_isHere lim _ _ 55 [none, none, none] [] M
      refine s_run (b := [(.iconst 1, 1)]) 56 [none, none, none] [.inl (1 : Int32)] (by decide +kernel) rfl ?_
      exact s_bret (Or.inr rfl) (by decide +kernel) rfl
  · skip
    refine s_run (b := [(.iconst 0, 1)]) 17 [some (.inr (.inr x0)), some (.inr (.inr x1)), none] [.inl (0 : Int32)] (by decide +kernel) rfl ?_
    exact s_bret (Or.inl rfl) (by decide +kernel) rfl
set_option maxRecDepth 20000 in
theorem c_X7_isHere {l : Launch} {G : Gv} {M : Mem} {x0 : Nat} {x1 : Nat} {z : Int32} (h : f_X7_isHere M x0 x1 = some z) : MetS l G Y_X7_isHere [.inr (.inr x0), .inr (.inr x1)] M (some (.int z)) M :=
  met_of (ls0 := [some (.inr (.inr x0)), some (.inr (.inr x1)), none]) (by decide) rfl (lv_in (m := 1) rfl) (sl_le (Nat.le_of_ble_eq_true rfl)) (by rw [h]; rfl) (Or.inl ⟨rfl, rfl⟩) (S_X7_isHere M x0 x1)
