def f_X12_below (M : Mem) (x0 : Nat) (x1 : Int32) : Option (Int32 × Mem) :=
  (gI M 12 x0 43).bind fun v1 =>
  (pI M 12 x0 43 ((v1 * (1103515245 : Int32)) + (12345 : Int32))).bind fun M2 =>
  (gI M2 12 x0 43).bind fun v3 =>
  (rmI (shr v3 (16 : Int32)) x1).bind fun v4 =>
  some (v4, M2)
set_option maxRecDepth 20000 in
theorem S_X12_below {l : Launch} {G : Gv} {lim : Nat × Nat} (M : Mem) (x0 : Nat) (x1 : Int32) : Sim l G Y_X12_below lim (f_X12_below M x0 x1) (fun z => some (some (.int z.1), z.2)) 0 [some (.inr (.inr x0)), some (.inl x1)] [] M := by
  unfold f_X12_below
  refine s_run (b := [(.aload_n 0, 1), (.aload_n 0, 1)]) 2 [some (.inr (.inr x0)), some (.inl x1)] [.inr (.inr x0), .inr (.inr x0)] (by decide +kernel) rfl ?_
  refine s_gI fl_12_423 rfl (by decide +kernel) (fun v1 => ?_)
  refine s_ldcw q1926 (by decide +kernel) ?_
  change Sim l G Y_X12_below lim _ _ 8 [some (.inr (.inr x0)), some (.inl x1)] [.inl (1103515245 : Int32), .inl v1, .inr (.inr x0)] M
  refine s_run (b := [(.imul, 1), (.sipush 12345, 3), (.iadd, 1)]) 13 [some (.inr (.inr x0)), some (.inl x1)] [.inl ((v1 * (1103515245 : Int32)) + (12345 : Int32)), .inr (.inr x0)] (by decide +kernel) rfl ?_
  refine s_pI fl_12_423 (Or.inl rfl) rfl (by decide +kernel) (fun M2 => ?_)
  refine s_run (b := [(.aload_n 0, 1)]) 17 [some (.inr (.inr x0)), some (.inl x1)] [.inr (.inr x0)] (by decide +kernel) rfl ?_
  refine s_gI fl_12_423 rfl (by decide +kernel) (fun v3 => ?_)
  refine s_run (b := [(.bipush 16, 2), (.iushr, 1), (.iload_n 1, 1)]) 24 [some (.inr (.inr x0)), some (.inl x1)] [.inl x1, .inl (shr v3 (16 : Int32))] (by decide +kernel) rfl ?_
  refine s_irem (by decide +kernel) (fun v4 => ?_)
  exact s_iret (by decide +kernel) rfl
set_option maxRecDepth 20000 in
theorem c_X12_below {l : Launch} {G : Gv} {M : Mem} {x0 : Nat} {x1 : Int32} {z : Int32 × Mem} (h : f_X12_below M x0 x1 = some z) : MetS l G Y_X12_below [.inr (.inr x0), .inl x1] M (some (.int z.1)) z.2 :=
  met_of (ls0 := [some (.inr (.inr x0)), some (.inl x1)]) (by decide) rfl (lv_in (m := 0) rfl) (sl_le (Nat.le_of_ble_eq_true rfl)) (by rw [h]; rfl) (Or.inl ⟨rfl, rfl⟩) (S_X12_below M x0 x1)
def f_X12_draws_J65 (M : Mem) (x3 : Int32) (y0 : Nat) (y1 : Int32) : Option (Mem) :=
  (ob M 12 y0).bind fun _ => (f_X12_does M y0 y1 x3).bind fun z1 =>
  some z1.2
set_option maxRecDepth 20000 in
theorem J_X12_draws_65 {l : Launch} {G : Gv} {lim : Nat × Nat} (M : Mem) (x3 : Int32) (y0 : Nat) (y1 : Int32)  : Sim l G Y_X12_draws lim (f_X12_draws_J65 M x3 y0 y1) (fun z => some (none, z)) 65 [none, none, none, some (.inl x3)] [.inl y1, .inr (.inr y0)] M := by
  unfold f_X12_draws_J65
  refine s_run (b := [(.iload_n 3, 1)]) 66 [none, none, none, some (.inl x3)] [.inl x3, .inl y1, .inr (.inr y0)] (by decide +kernel) rfl ?_
  refine s_cV (Z := Y_X12_does) (c := 12) (vs := [.inl y1, .inl x3]) (st := []) (rO := fun z => some (.inl z.1)) (mO := fun z => z.2) zk_X12_does zi_X12_does q1594 rfl ⟨by decide, by decide⟩ ⟨rfl, rfl⟩ rfl rfl (Nat.le_of_ble_eq_true rfl) (by decide +kernel) (fun z hz => c_X12_does hz) (fun z1 => ?_)
  change Sim l G Y_X12_draws lim _ _ 69 [none, none, none, some (.inl x3)] [.inl z1.1] z1.2
  refine s_run (b := [(.pop, 1)]) 70 [none, none, none, some (.inl x3)] [] (by decide +kernel) rfl ?_
  exact s_vret (by decide +kernel) rfl
def f_X12_draws_J23 (M : Mem) (x0 : Nat) (x1 : Int32) (y0 : Int32) : Option (Mem) :=
  (if y0 = 0 then
    some M
  else
    (ob M 12 x0).bind fun _ => (f_X12_below M x0 y0).bind fun z2 =>
    (if (4 : Int32) ≤ x1 then
      (if x1 = (4 : Int32) then
        f_X12_draws_J65 z2.2 z2.1 x0 (1 : Int32)
      else
        (if (7 : Int32) ≤ x1 then
          f_X12_draws_J65 z2.2 z2.1 x0 (3 : Int32)
        else
          f_X12_draws_J65 z2.2 z2.1 x0 (2 : Int32)))
    else
      f_X12_draws_J65 z2.2 z2.1 x0 (0 : Int32)))
set_option maxRecDepth 20000 in
theorem J_X12_draws_23 {l : Launch} {G : Gv} {lim : Nat × Nat} (M : Mem) (x0 : Nat) (x1 : Int32) (y0 : Int32)  : Sim l G Y_X12_draws lim (f_X12_draws_J23 M x0 x1 y0) (fun z => some (none, z)) 23 [some (.inr (.inr x0)), some (.inl x1), none, none] [.inl y0] M := by
  unfold f_X12_draws_J23
  refine s_run (b := [(.istore_n 2, 1), (.iload_n 2, 1)]) 25 [some (.inr (.inr x0)), some (.inl x1), some (.inl y0), none] [.inl y0] (by decide +kernel) rfl ?_
  refine s_if_ne (tgt := 29) (off := 4) (by decide +kernel) (by decide) (fun h1 => ?_) (fun h1 => ?_)
  · skip
    exact s_vret (by decide +kernel) rfl
  · skip
    refine s_run (b := [(.aload_n 0, 1), (.iload_n 2, 1)]) 31 [some (.inr (.inr x0)), some (.inl x1), some (.inl y0), none] [.inl y0, .inr (.inr x0)] (by decide +kernel) rfl ?_
    refine s_cV (Z := Y_X12_below) (c := 12) (vs := [.inl y0]) (st := []) (rO := fun z => some (.inl z.1)) (mO := fun z => z.2) zk_X12_below zi_X12_below q1922 rfl ⟨by decide, by decide⟩ ⟨rfl, rfl⟩ rfl rfl (Nat.le_of_ble_eq_true rfl) (by decide +kernel) (fun z hz => c_X12_below hz) (fun z2 => ?_)
    change Sim l G Y_X12_draws lim _ _ 34 [some (.inr (.inr x0)), some (.inl x1), some (.inl y0), none] [.inl z2.1] z2.2
    refine s_run (b := [(.istore_n 3, 1), (.aload_n 0, 1), (.iload_n 1, 1), (.iconst 4, 1)]) 38 [some (.inr (.inr x0)), some (.inl x1), some (.inl y0), some (.inl z2.1)] [.inl (4 : Int32), .inl x1, .inr (.inr x0)] (by decide +kernel) rfl ?_
    refine s_ic_ge (tgt := 45) (off := 7) (by decide +kernel) (by decide) (fun h3 => ?_) (fun h3 => ?_)
    · skip
      refine s_run (b := [(.iload_n 1, 1), (.iconst 4, 1)]) 47 [some (.inr (.inr x0)), some (.inl x1), some (.inl y0), some (.inl z2.1)] [.inl (4 : Int32), .inl x1, .inr (.inr x0)] (by decide +kernel) rfl ?_
      refine s_ic_ne (tgt := 54) (off := 7) (by decide +kernel) (by decide) (fun h4 => ?_) (fun h4 => ?_)
      · skip
        refine s_run (b := [(.iconst 1, 1), (.goto 14, 3)]) 65 [some (.inr (.inr x0)), some (.inl x1), some (.inl y0), some (.inl z2.1)] [.inl (1 : Int32), .inr (.inr x0)] (by decide +kernel) rfl ?_
        exact s_lsub (ls' := [none, none, none, some (.inl z2.1)]) ⟨rfl, trivial⟩ (J_X12_draws_65 z2.2 z2.1 x0 (1 : Int32))
      · skip
        refine s_run (b := [(.iload_n 1, 1), (.bipush 7, 2)]) 57 [some (.inr (.inr x0)), some (.inl x1), some (.inl y0), some (.inl z2.1)] [.inl (7 : Int32), .inl x1, .inr (.inr x0)] (by decide +kernel) rfl ?_
        refine s_ic_ge (tgt := 64) (off := 7) (by decide +kernel) (by decide) (fun h5 => ?_) (fun h5 => ?_)
        · skip
          refine s_run (b := [(.iconst 3, 1)]) 65 [some (.inr (.inr x0)), some (.inl x1), some (.inl y0), some (.inl z2.1)] [.inl (3 : Int32), .inr (.inr x0)] (by decide +kernel) rfl ?_
          exact s_lsub (ls' := [none, none, none, some (.inl z2.1)]) ⟨rfl, trivial⟩ (J_X12_draws_65 z2.2 z2.1 x0 (3 : Int32))
        · skip
          refine s_run (b := [(.iconst 2, 1), (.goto 4, 3)]) 65 [some (.inr (.inr x0)), some (.inl x1), some (.inl y0), some (.inl z2.1)] [.inl (2 : Int32), .inr (.inr x0)] (by decide +kernel) rfl ?_
          exact s_lsub (ls' := [none, none, none, some (.inl z2.1)]) ⟨rfl, trivial⟩ (J_X12_draws_65 z2.2 z2.1 x0 (2 : Int32))
    · skip
      refine s_run (b := [(.iconst 0, 1), (.goto 23, 3)]) 65 [some (.inr (.inr x0)), some (.inl x1), some (.inl y0), some (.inl z2.1)] [.inl (0 : Int32), .inr (.inr x0)] (by decide +kernel) rfl ?_
      exact s_lsub (ls' := [none, none, none, some (.inl z2.1)]) ⟨rfl, trivial⟩ (J_X12_draws_65 z2.2 z2.1 x0 (0 : Int32))
def f_X12_draws (M : Mem) (x0 : Nat) : Option (Mem) :=
  (ob M 12 x0).bind fun _ => (f_X12_below M x0 (8 : Int32)).bind fun z1 =>
  (if (4 : Int32) ≤ z1.1 then
    (gI z1.2 12 x0 12).bind fun v3 =>
    f_X12_draws_J23 z1.2 x0 z1.1 v3
  else
    (gI z1.2 12 x0 13).bind fun v4 =>
    f_X12_draws_J23 z1.2 x0 z1.1 v4)
set_option maxRecDepth 20000 in
theorem S_X12_draws {l : Launch} {G : Gv} {lim : Nat × Nat} (M : Mem) (x0 : Nat) : Sim l G Y_X12_draws lim (f_X12_draws M x0) (fun z => some (none, z)) 0 [some (.inr (.inr x0)), none, none, none] [] M := by
  unfold f_X12_draws
  refine s_run (b := [(.aload_n 0, 1), (.bipush 8, 2)]) 3 [some (.inr (.inr x0)), none, none, none] [.inl (8 : Int32), .inr (.inr x0)] (by decide +kernel) rfl ?_
  refine s_cV (Z := Y_X12_below) (c := 12) (vs := [.inl (8 : Int32)]) (st := []) (rO := fun z => some (.inl z.1)) (mO := fun z => z.2) zk_X12_below zi_X12_below q1922 rfl ⟨by decide, by decide⟩ ⟨rfl, rfl⟩ rfl rfl (Nat.le_of_ble_eq_true rfl) (by decide +kernel) (fun z hz => c_X12_below hz) (fun z1 => ?_)
  change Sim l G Y_X12_draws lim _ _ 6 [some (.inr (.inr x0)), none, none, none] [.inl z1.1] z1.2
  refine s_run (b := [(.istore_n 1, 1), (.iload_n 1, 1), (.iconst 4, 1)]) 9 [some (.inr (.inr x0)), some (.inl z1.1), none, none] [.inl (4 : Int32), .inl z1.1] (by decide +kernel) rfl ?_
  refine s_ic_ge (tgt := 19) (off := 10) (by decide +kernel) (by decide) (fun h2 => ?_) (fun h2 => ?_)
  · skip
    refine s_run (b := [(.aload_n 0, 1)]) 20 [some (.inr (.inr x0)), some (.inl z1.1), none, none] [.inr (.inr x0)] (by decide +kernel) rfl ?_
    refine s_gI fl_12_162 rfl (by decide +kernel) (fun v3 => ?_)
    exact s_lsub (ls' := [some (.inr (.inr x0)), some (.inl z1.1), none, none]) ⟨rfl, ⟨rfl, trivial⟩⟩ (J_X12_draws_23 z1.2 x0 z1.1 v3)
  · skip
    refine s_run (b := [(.aload_n 0, 1)]) 13 [some (.inr (.inr x0)), some (.inl z1.1), none, none] [.inr (.inr x0)] (by decide +kernel) rfl ?_
    refine s_gI fl_12_165 rfl (by decide +kernel) (fun v4 => ?_)
    refine s_run (b := [(.goto 7, 3)]) 23 [some (.inr (.inr x0)), some (.inl z1.1), none, none] [.inl v4] (by decide +kernel) rfl ?_
    exact s_lsub (ls' := [some (.inr (.inr x0)), some (.inl z1.1), none, none]) ⟨rfl, ⟨rfl, trivial⟩⟩ (J_X12_draws_23 z1.2 x0 z1.1 v4)
set_option maxRecDepth 20000 in
theorem c_X12_draws {l : Launch} {G : Gv} {M : Mem} {x0 : Nat} {z : Mem} (h : f_X12_draws M x0 = some z) : MetS l G Y_X12_draws [.inr (.inr x0)] M none z :=
  met_of (ls0 := [some (.inr (.inr x0)), none, none, none]) (by decide) rfl (lv_in (m := 3) rfl) (sl_le (Nat.le_of_ble_eq_true rfl)) (by rw [h]; rfl) (Or.inl ⟨rfl, rfl⟩) (S_X12_draws M x0)
def f_X12_nowOf (M : Mem) (x0 : Nat) (x1 : Int32) : Option (Int32) :=
  (if x1 = (0 : Int32) then
    (gI M 12 x0 20).bind fun v2 =>
    some v2
  else
  (if x1 = (1 : Int32) then
    (gI M 12 x0 21).bind fun v4 =>
    some v4
  else
  (if x1 = (2 : Int32) then
    (gI M 12 x0 22).bind fun v6 =>
    some v6
  else
  (if x1 = (3 : Int32) then
    (gI M 12 x0 23).bind fun v8 =>
    some v8
  else
  (if x1 = (4 : Int32) then
    (gI M 12 x0 24).bind fun v10 =>
    some v10
  else
  (if x1 = (5 : Int32) then
    (gI M 12 x0 25).bind fun v12 =>
    some v12
  else
  (if x1 = (6 : Int32) then
    (gI M 12 x0 26).bind fun v14 =>
    some v14
  else
  (rmI x1 (10 : Int32)).bind fun v15 =>
  (f_X12_isIn M x1 (10 : Int32) (39 : Int32)).bind fun v16 =>
  (if v16 = 0 then
    some (-2 : Int32)
  else
    (ob M 12 x0).bind fun _ => (f_X12_isDesk M x0 v15).bind fun v18 =>
    (if v18 = 0 then
      some (-2 : Int32)
    else
      (if (20 : Int32) ≤ x1 then
        (if (30 : Int32) ≤ x1 then
          (gR M 12 x0 29).bind fun v22 =>
          (aI M 0 v22 v15).bind fun v23 =>
          some v23
        else
          (gR M 12 x0 28).bind fun v24 =>
          (aI M 0 v24 v15).bind fun v25 =>
          some v25)
      else
        (gR M 12 x0 14).bind fun v26 =>
        (aI M 0 v26 v15).bind fun v27 =>
        some v27))))))))))
set_option maxRecDepth 20000 in
theorem S_X12_nowOf {l : Launch} {G : Gv} {lim : Nat × Nat} (M : Mem) (x0 : Nat) (x1 : Int32) : Sim l G Y_X12_nowOf lim (f_X12_nowOf M x0 x1) (fun z => some (some (.int z), M)) 0 [some (.inr (.inr x0)), some (.inl x1), none] [] M := by
  unfold f_X12_nowOf
  refine s_run (b := [(.iload_n 1, 1)]) 1 [some (.inr (.inr x0)), some (.inl x1), none] [.inl x1] (by decide +kernel) rfl ?_
  refine s_ite (fun h1 => ?_) (fun h1 => ?_)
  · refine s_tabIn (off := 43) (tgt := 44) (dflt := 78) (lo := 0) (hi := 6) (offs := #[43, 48, 53, 58, 63, 68, 73]) (len := 43) (0 : Int32) (by decide +kernel) h1 rfl rfl rfl (by decide) ?_
    change Sim l G Y_X12_nowOf lim _ _ 44 [some (.inr (.inr x0)), some (.inl x1), none] [] M
    refine s_run (b := [(.aload_n 0, 1)]) 45 [some (.inr (.inr x0)), some (.inl x1), none] [.inr (.inr x0)] (by decide +kernel) rfl ?_
    refine s_gI fl_12_217 rfl (by decide +kernel) (fun v2 => ?_)
    exact s_iret (by decide +kernel) rfl
  refine s_ite (fun h3 => ?_) (fun h3 => ?_)
  · refine s_tabIn (off := 48) (tgt := 49) (dflt := 78) (lo := 0) (hi := 6) (offs := #[43, 48, 53, 58, 63, 68, 73]) (len := 43) (1 : Int32) (by decide +kernel) h3 rfl rfl rfl (by decide) ?_
    change Sim l G Y_X12_nowOf lim _ _ 49 [some (.inr (.inr x0)), some (.inl x1), none] [] M
    refine s_run (b := [(.aload_n 0, 1)]) 50 [some (.inr (.inr x0)), some (.inl x1), none] [.inr (.inr x0)] (by decide +kernel) rfl ?_
    refine s_gI fl_12_220 rfl (by decide +kernel) (fun v4 => ?_)
    exact s_iret (by decide +kernel) rfl
  refine s_ite (fun h5 => ?_) (fun h5 => ?_)
  · refine s_tabIn (off := 53) (tgt := 54) (dflt := 78) (lo := 0) (hi := 6) (offs := #[43, 48, 53, 58, 63, 68, 73]) (len := 43) (2 : Int32) (by decide +kernel) h5 rfl rfl rfl (by decide) ?_
    change Sim l G Y_X12_nowOf lim _ _ 54 [some (.inr (.inr x0)), some (.inl x1), none] [] M
    refine s_run (b := [(.aload_n 0, 1)]) 55 [some (.inr (.inr x0)), some (.inl x1), none] [.inr (.inr x0)] (by decide +kernel) rfl ?_
    refine s_gI fl_12_223 rfl (by decide +kernel) (fun v6 => ?_)
    exact s_iret (by decide +kernel) rfl
  refine s_ite (fun h7 => ?_) (fun h7 => ?_)
  · refine s_tabIn (off := 58) (tgt := 59) (dflt := 78) (lo := 0) (hi := 6) (offs := #[43, 48, 53, 58, 63, 68, 73]) (len := 43) (3 : Int32) (by decide +kernel) h7 rfl rfl rfl (by decide) ?_
    change Sim l G Y_X12_nowOf lim _ _ 59 [some (.inr (.inr x0)), some (.inl x1), none] [] M
    refine s_run (b := [(.aload_n 0, 1)]) 60 [some (.inr (.inr x0)), some (.inl x1), none] [.inr (.inr x0)] (by decide +kernel) rfl ?_
    refine s_gI fl_12_226 rfl (by decide +kernel) (fun v8 => ?_)
    exact s_iret (by decide +kernel) rfl
  refine s_ite (fun h9 => ?_) (fun h9 => ?_)
  · refine s_tabIn (off := 63) (tgt := 64) (dflt := 78) (lo := 0) (hi := 6) (offs := #[43, 48, 53, 58, 63, 68, 73]) (len := 43) (4 : Int32) (by decide +kernel) h9 rfl rfl rfl (by decide) ?_
    change Sim l G Y_X12_nowOf lim _ _ 64 [some (.inr (.inr x0)), some (.inl x1), none] [] M
    refine s_run (b := [(.aload_n 0, 1)]) 65 [some (.inr (.inr x0)), some (.inl x1), none] [.inr (.inr x0)] (by decide +kernel) rfl ?_
    refine s_gI fl_12_229 rfl (by decide +kernel) (fun v10 => ?_)
    exact s_iret (by decide +kernel) rfl
  refine s_ite (fun h11 => ?_) (fun h11 => ?_)
  · refine s_tabIn (off := 68) (tgt := 69) (dflt := 78) (lo := 0) (hi := 6) (offs := #[43, 48, 53, 58, 63, 68, 73]) (len := 43) (5 : Int32) (by decide +kernel) h11 rfl rfl rfl (by decide) ?_
    change Sim l G Y_X12_nowOf lim _ _ 69 [some (.inr (.inr x0)), some (.inl x1), none] [] M
    refine s_run (b := [(.aload_n 0, 1)]) 70 [some (.inr (.inr x0)), some (.inl x1), none] [.inr (.inr x0)] (by decide +kernel) rfl ?_
    refine s_gI fl_12_232 rfl (by decide +kernel) (fun v12 => ?_)
    exact s_iret (by decide +kernel) rfl
  refine s_ite (fun h13 => ?_) (fun h13 => ?_)
  · refine s_tabIn (off := 73) (tgt := 74) (dflt := 78) (lo := 0) (hi := 6) (offs := #[43, 48, 53, 58, 63, 68, 73]) (len := 43) (6 : Int32) (by decide +kernel) h13 rfl rfl rfl (by decide) ?_
    change Sim l G Y_X12_nowOf lim _ _ 74 [some (.inr (.inr x0)), some (.inl x1), none] [] M
    refine s_run (b := [(.aload_n 0, 1)]) 75 [some (.inr (.inr x0)), some (.inl x1), none] [.inr (.inr x0)] (by decide +kernel) rfl ?_
    refine s_gI fl_12_235 rfl (by decide +kernel) (fun v14 => ?_)
    exact s_iret (by decide +kernel) rfl
  refine s_tabOut (tgt := 79) (dflt := 78) (lo := 0) (hi := 6) (offs := #[43, 48, 53, 58, 63, 68, 73]) (len := 43) (by decide +kernel) (tab_out (fun k hk => by rcases (show k = 0 ∨ k = 1 ∨ k = 2 ∨ k = 3 ∨ k = 4 ∨ k = 5 ∨ k = 6 by omega) with rfl | rfl | rfl | rfl | rfl | rfl | rfl <;> first | exact i32_ne h1 (by decide) | exact i32_ne h3 (by decide) | exact i32_ne h5 (by decide) | exact i32_ne h7 (by decide) | exact i32_ne h9 (by decide) | exact i32_ne h11 (by decide) | exact i32_ne h13 (by decide))) (by decide) ?_
  change Sim l G Y_X12_nowOf lim _ _ 79 [some (.inr (.inr x0)), some (.inl x1), none] [] M
  refine s_run (b := [(.iload_n 1, 1), (.bipush 10, 2)]) 82 [some (.inr (.inr x0)), some (.inl x1), none] [.inl (10 : Int32), .inl x1] (by decide +kernel) rfl ?_
  refine s_irem (by decide +kernel) (fun v15 => ?_)
  refine s_run (b := [(.istore_n 2, 1), (.iload_n 1, 1), (.bipush 10, 2), (.bipush 39, 2)]) 89 [some (.inr (.inr x0)), some (.inl x1), some (.inl v15)] [.inl (39 : Int32), .inl (10 : Int32), .inl x1] (by decide +kernel) rfl ?_
  refine s_cS (Z := Y_X12_isIn) (vs := [.inl x1, .inl (10 : Int32), .inl (39 : Int32)]) (st := []) (rO := fun z => some (.inl z)) (mO := fun _ => M) zk_X12_isIn q1464 q1463 ⟨by decide, by decide⟩ ⟨rfl, rfl⟩ rfl rfl (Nat.le_of_ble_eq_true rfl) (by decide +kernel) (fun z hz => c_X12_isIn hz) (fun v16 => ?_)
  change Sim l G Y_X12_nowOf lim _ _ 92 [some (.inr (.inr x0)), some (.inl x1), some (.inl v15)] [.inl v16] M
  refine s_if_eq (tgt := 103) (off := 11) (by decide +kernel) (by decide) (fun h17 => ?_) (fun h17 => ?_)
  · skip
    refine s_run (b := [(.bipush (-2), 2)]) 105 [some (.inr (.inr x0)), some (.inl x1), some (.inl v15)] [.inl (-2 : Int32)] (by decide +kernel) rfl ?_
    exact s_iret (by decide +kernel) rfl
  · skip
    refine s_run (b := [(.aload_n 0, 1), (.iload_n 2, 1)]) 97 [some (.inr (.inr x0)), some (.inl x1), some (.inl v15)] [.inl v15, .inr (.inr x0)] (by decide +kernel) rfl ?_
    refine s_cV (Z := Y_X12_isDesk) (c := 12) (vs := [.inl v15]) (st := []) (rO := fun z => some (.inl z)) (mO := fun _ => M) zk_X12_isDesk zi_X12_isDesk q1554 rfl ⟨by decide, by decide⟩ ⟨rfl, rfl⟩ rfl rfl (Nat.le_of_ble_eq_true rfl) (by decide +kernel) (fun z hz => c_X12_isDesk hz) (fun v18 => ?_)
    change Sim l G Y_X12_nowOf lim _ _ 100 [some (.inr (.inr x0)), some (.inl x1), some (.inl v15)] [.inl v18] M
    refine s_if_ne (tgt := 106) (off := 6) (by decide +kernel) (by decide) (fun h19 => ?_) (fun h19 => ?_)
    · skip
      refine s_run (b := [(.bipush (-2), 2)]) 105 [some (.inr (.inr x0)), some (.inl x1), some (.inl v15)] [.inl (-2 : Int32)] (by decide +kernel) rfl ?_
      exact s_iret (by decide +kernel) rfl
    · skip
      refine s_run (b := [(.iload_n 1, 1), (.bipush 20, 2)]) 109 [some (.inr (.inr x0)), some (.inl x1), some (.inl v15)] [.inl (20 : Int32), .inl x1] (by decide +kernel) rfl ?_
      refine s_ic_ge (tgt := 121) (off := 12) (by decide +kernel) (by decide) (fun h20 => ?_) (fun h20 => ?_)
      · skip
        refine s_run (b := [(.iload_n 1, 1), (.bipush 30, 2)]) 124 [some (.inr (.inr x0)), some (.inl x1), some (.inl v15)] [.inl (30 : Int32), .inl x1] (by decide +kernel) rfl ?_
        refine s_ic_ge (tgt := 136) (off := 12) (by decide +kernel) (by decide) (fun h21 => ?_) (fun h21 => ?_)
        · skip
          refine s_run (b := [(.aload_n 0, 1)]) 137 [some (.inr (.inr x0)), some (.inl x1), some (.inl v15)] [.inr (.inr x0)] (by decide +kernel) rfl ?_
          refine s_gR fl_12_29 rfl (by decide +kernel) (fun v22 => ?_)
          refine s_run (b := [(.iload_n 2, 1)]) 141 [some (.inr (.inr x0)), some (.inl x1), some (.inl v15)] [.inl v15, .inr (.inr v22)] (by decide +kernel) rfl ?_
          refine s_ia (by decide +kernel) (fun v23 => ?_)
          exact s_iret (by decide +kernel) rfl
        · skip
          refine s_run (b := [(.aload_n 0, 1)]) 128 [some (.inr (.inr x0)), some (.inl x1), some (.inl v15)] [.inr (.inr x0)] (by decide +kernel) rfl ?_
          refine s_gR fl_12_26 rfl (by decide +kernel) (fun v24 => ?_)
          refine s_run (b := [(.iload_n 2, 1)]) 132 [some (.inr (.inr x0)), some (.inl x1), some (.inl v15)] [.inl v15, .inr (.inr v24)] (by decide +kernel) rfl ?_
          refine s_ia (by decide +kernel) (fun v25 => ?_)
          refine s_run (b := [(.goto 9, 3)]) 142 [some (.inr (.inr x0)), some (.inl x1), some (.inl v15)] [.inl v25] (by decide +kernel) rfl ?_
          exact s_iret (by decide +kernel) rfl
      · skip
        refine s_run (b := [(.aload_n 0, 1)]) 113 [some (.inr (.inr x0)), some (.inl x1), some (.inl v15)] [.inr (.inr x0)] (by decide +kernel) rfl ?_
        refine s_gR fl_12_20 rfl (by decide +kernel) (fun v26 => ?_)
        refine s_run (b := [(.iload_n 2, 1)]) 117 [some (.inr (.inr x0)), some (.inl x1), some (.inl v15)] [.inl v15, .inr (.inr v26)] (by decide +kernel) rfl ?_
        refine s_ia (by decide +kernel) (fun v27 => ?_)
        refine s_run (b := [(.goto 24, 3)]) 142 [some (.inr (.inr x0)), some (.inl x1), some (.inl v15)] [.inl v27] (by decide +kernel) rfl ?_
        exact s_iret (by decide +kernel) rfl
set_option maxRecDepth 20000 in
theorem c_X12_nowOf {l : Launch} {G : Gv} {M : Mem} {x0 : Nat} {x1 : Int32} {z : Int32} (h : f_X12_nowOf M x0 x1 = some z) : MetS l G Y_X12_nowOf [.inr (.inr x0), .inl x1] M (some (.int z)) M :=
  met_of (ls0 := [some (.inr (.inr x0)), some (.inl x1), none]) (by decide) rfl (lv_in (m := 1) rfl) (sl_le (Nat.le_of_ble_eq_true rfl)) (by rw [h]; rfl) (Or.inl ⟨rfl, rfl⟩) (S_X12_nowOf M x0 x1)
def f_X12_drawn_B38 (M : Mem) (x0 : Nat) (x3 : Int32) (x4 : Int32) (x5 : Int32) : Option ((Int32 × Mem) ⊕ ((Mem))) :=
  (if x3 ≤ x5 then
    some (.inr M)
  else
    (ob M 12 x0).bind fun _ => (f_X12_draws M x0).bind fun z2 =>
    some (.inl ((x5 + (1 : Int32)), z2)))
def f_X12_drawn_L38 (M : Mem) (x0 : Nat) (x3 : Int32) (x4 : Int32) (x5 : Int32) : Option ((Mem)) := iter (fun s : Int32 × Mem => f_X12_drawn_B38 s.2 x0 x3 x4 s.1) 1048576 (x5, M)
set_option maxRecDepth 20000 in
theorem B_X12_drawn_38 {l : Launch} {G : Gv} {lim : Nat × Nat} (M : Mem) (x0 : Nat) (x3 : Int32) (x4 : Int32) (x5 : Int32) (K : (Int32 × Mem) ⊕ ((Mem)) → Option (Option Value × Mem)) (kk1 : ∀ (s5 : Int32) (s_ : Mem), SimR l G Y_X12_drawn lim (K (.inl (s5, s_))) 38 [some (.inr (.inr x0)), none, none, some (.inl x3), some (.inl x4), some (.inl s5)] [] s_) (kk2_0 : ∀ (s_ : Mem), SimR l G Y_X12_drawn lim (K (.inr s_)) 54 [some (.inr (.inr x0)), none, none, none, some (.inl x4), none] [] s_) : Sim l G Y_X12_drawn lim (f_X12_drawn_B38 M x0 x3 x4 x5) K 38 [some (.inr (.inr x0)), none, none, some (.inl x3), some (.inl x4), some (.inl x5)] [] M := by
  unfold f_X12_drawn_B38
  refine s_run (b := [(.iload 5, 2), (.iload_n 3, 1)]) 41 [some (.inr (.inr x0)), none, none, some (.inl x3), some (.inl x4), some (.inl x5)] [.inl x3, .inl x5] (by decide +kernel) rfl ?_
  refine s_ic_ge (tgt := 54) (off := 13) (by decide +kernel) (by decide) (fun h1 => ?_) (fun h1 => ?_)
  · skip
    exact s_lsub (ls' := [some (.inr (.inr x0)), none, none, none, some (.inl x4), none]) ⟨rfl, ⟨rfl, trivial⟩⟩ (kk2_0 M)
  · skip
    refine s_run (b := [(.aload_n 0, 1)]) 45 [some (.inr (.inr x0)), none, none, some (.inl x3), some (.inl x4), some (.inl x5)] [.inr (.inr x0)] (by decide +kernel) rfl ?_
    refine s_cV (Z := Y_X12_draws) (c := 12) (vs := []) (st := []) (rO := fun _ => none) (mO := fun z => z) zk_X12_draws zi_X12_draws q1918 rfl ⟨by decide, by decide⟩ ⟨rfl, rfl⟩ rfl rfl (Nat.le_of_ble_eq_true rfl) (by decide +kernel) (fun z hz => c_X12_draws hz) (fun z2 => ?_)
    change Sim l G Y_X12_drawn lim _ _ 48 [some (.inr (.inr x0)), none, none, some (.inl x3), some (.inl x4), some (.inl x5)] [] z2
    refine s_run (b := [(.iinc 5 1, 3), (.goto (-13), 3)]) 38 [some (.inr (.inr x0)), none, none, some (.inl x3), some (.inl x4), some (.inl (x5 + (1 : Int32)))] [] (by decide +kernel) rfl ?_
    exact s_lsub (ls' := [some (.inr (.inr x0)), none, none, some (.inl x3), some (.inl x4), some (.inl (x5 + (1 : Int32)))]) ⟨rfl, ⟨rfl, ⟨rfl, ⟨rfl, trivial⟩⟩⟩⟩ (kk1 (x5 + (1 : Int32)) z2)
set_option maxRecDepth 20000 in
theorem L_X12_drawn_38 {l : Launch} {G : Gv} {lim : Nat × Nat} (M : Mem) (x0 : Nat) (x3 : Int32) (x4 : Int32) (x5 : Int32) (K : ((Mem)) → Option (Option Value × Mem)) (kk2_0 : ∀ r : Mem, SimR l G Y_X12_drawn lim (K r) 54 [some (.inr (.inr x0)), none, none, none, some (.inl x4), none] [] r) : Sim l G Y_X12_drawn lim (f_X12_drawn_L38 M x0 x3 x4 x5) K 38 [some (.inr (.inr x0)), none, none, some (.inl x3), some (.inl x4), some (.inl x5)] [] M :=
  s_iter (f := fun s : Int32 × Mem => f_X12_drawn_B38 s.2 x0 x3 x4 s.1) (hd := 38) (cl := fun s => [some (.inr (.inr x0)), none, none, some (.inl x3), some (.inl x4), some (.inl s.1)]) (cm := fun s => s.2) (xp := fun _ => 54) (xl := fun r => [some (.inr (.inr x0)), none, none, none, some (.inl x4), none]) (xm := fun r => r) (fun s K h1 h2 => B_X12_drawn_38 s.2 x0 x3 x4 s.1 K (fun a5 a_ => h1 (a5, a_)) (fun a_ => h2 a_)) 1048576 (x5, M) K kk2_0
def f_X12_drawn (M : Mem) (x0 : Nat) (x1 : Int32) (x2 : Int32) (x3 : Int32) (x4 : Int32) : Option (Int32 × Mem) :=
  (ob M 12 x0).bind fun _ => (f_X12_isOffice M x0 x1).bind fun z1 =>
  (if z1.1 = 0 then
    some ((-2 : Int32), z1.2)
  else
    (f_X12_isIn z1.2 x3 (0 : Int32) (60 : Int32)).bind fun v3 =>
    (if v3 = 0 then
      some ((-2 : Int32), z1.2)
    else
      (if 0 ≤ x4 then
        (pI z1.2 12 x0 43 x2).bind fun M6 =>
        (ob M6 12 x0).bind fun _ => (f_X12_begins M6 x0).bind fun z7 =>
        (f_X12_drawn_L38 z7 x0 x3 x4 (0 : Int32)).bind fun r8 =>
        (ob r8 12 x0).bind fun _ => (f_X12_nowOf r8 x0 x4).bind fun v9 =>
        some (v9, r8)
      else
        some ((-2 : Int32), z1.2))))
set_option maxRecDepth 20000 in
theorem S_X12_drawn {l : Launch} {G : Gv} {lim : Nat × Nat} (M : Mem) (x0 : Nat) (x1 : Int32) (x2 : Int32) (x3 : Int32) (x4 : Int32) : Sim l G Y_X12_drawn lim (f_X12_drawn M x0 x1 x2 x3 x4) (fun z => some (some (.int z.1), z.2)) 0 [some (.inr (.inr x0)), some (.inl x1), some (.inl x2), some (.inl x3), some (.inl x4), none] [] M := by
  unfold f_X12_drawn
  refine s_run (b := [(.aload_n 0, 1), (.iload_n 1, 1)]) 2 [some (.inr (.inr x0)), some (.inl x1), some (.inl x2), some (.inl x3), some (.inl x4), none] [.inl x1, .inr (.inr x0)] (by decide +kernel) rfl ?_
  refine s_cV (Z := Y_X12_isOffice) (c := 12) (vs := [.inl x1]) (st := []) (rO := fun z => some (.inl z.1)) (mO := fun z => z.2) zk_X12_isOffice zi_X12_isOffice q1550 rfl ⟨by decide, by decide⟩ ⟨rfl, rfl⟩ rfl rfl (Nat.le_of_ble_eq_true rfl) (by decide +kernel) (fun z hz => c_X12_isOffice hz) (fun z1 => ?_)
  change Sim l G Y_X12_drawn lim _ _ 5 [some (.inr (.inr x0)), some (.inl x1), some (.inl x2), some (.inl x3), some (.inl x4), none] [.inl z1.1] z1.2
  refine s_if_eq (tgt := 23) (off := 18) (by decide +kernel) (by decide) (fun h2 => ?_) (fun h2 => ?_)
  · skip
    refine s_run (b := [(.bipush (-2), 2)]) 25 [some (.inr (.inr x0)), some (.inl x1), some (.inl x2), some (.inl x3), some (.inl x4), none] [.inl (-2 : Int32)] (by decide +kernel) rfl ?_
    exact s_iret (by decide +kernel) rfl
  · skip
    refine s_run (b := [(.iload_n 3, 1), (.iconst 0, 1), (.bipush 60, 2)]) 12 [some (.inr (.inr x0)), some (.inl x1), some (.inl x2), some (.inl x3), some (.inl x4), none] [.inl (60 : Int32), .inl (0 : Int32), .inl x3] (by decide +kernel) rfl ?_
    refine s_cS (Z := Y_X12_isIn) (vs := [.inl x3, .inl (0 : Int32), .inl (60 : Int32)]) (st := []) (rO := fun z => some (.inl z)) (mO := fun _ => z1.2) zk_X12_isIn q1464 q1463 ⟨by decide, by decide⟩ ⟨rfl, rfl⟩ rfl rfl (Nat.le_of_ble_eq_true rfl) (by decide +kernel) (fun z hz => c_X12_isIn hz) (fun v3 => ?_)
    change Sim l G Y_X12_drawn lim _ _ 15 [some (.inr (.inr x0)), some (.inl x1), some (.inl x2), some (.inl x3), some (.inl x4), none] [.inl v3] z1.2
    refine s_if_eq (tgt := 23) (off := 8) (by decide +kernel) (by decide) (fun h4 => ?_) (fun h4 => ?_)
    · skip
      refine s_run (b := [(.bipush (-2), 2)]) 25 [some (.inr (.inr x0)), some (.inl x1), some (.inl x2), some (.inl x3), some (.inl x4), none] [.inl (-2 : Int32)] (by decide +kernel) rfl ?_
      exact s_iret (by decide +kernel) rfl
    · skip
      refine s_run (b := [(.iload 4, 2)]) 20 [some (.inr (.inr x0)), some (.inl x1), some (.inl x2), some (.inl x3), some (.inl x4), none] [.inl x4] (by decide +kernel) rfl ?_
      refine s_if_ge (tgt := 26) (off := 6) (by decide +kernel) (by decide) (fun h5 => ?_) (fun h5 => ?_)
      · skip
        refine s_run (b := [(.aload_n 0, 1), (.iload_n 2, 1)]) 28 [some (.inr (.inr x0)), some (.inl x1), some (.inl x2), some (.inl x3), some (.inl x4), none] [.inl x2, .inr (.inr x0)] (by decide +kernel) rfl ?_
        refine s_pI fl_12_423 (Or.inl rfl) rfl (by decide +kernel) (fun M6 => ?_)
        refine s_run (b := [(.aload_n 0, 1)]) 32 [some (.inr (.inr x0)), some (.inl x1), some (.inl x2), some (.inl x3), some (.inl x4), none] [.inr (.inr x0)] (by decide +kernel) rfl ?_
        refine s_cV (Z := Y_X12_begins) (c := 12) (vs := []) (st := []) (rO := fun _ => none) (mO := fun z => z) zk_X12_begins zi_X12_begins q1586 rfl ⟨by decide, by decide⟩ ⟨rfl, rfl⟩ rfl rfl (Nat.le_of_ble_eq_true rfl) (by decide +kernel) (fun z hz => c_X12_begins hz) (fun z7 => ?_)
        change Sim l G Y_X12_drawn lim _ _ 35 [some (.inr (.inr x0)), some (.inl x1), some (.inl x2), some (.inl x3), some (.inl x4), none] [] z7
        refine s_run (b := [(.iconst 0, 1), (.istore 5, 2)]) 38 [some (.inr (.inr x0)), some (.inl x1), some (.inl x2), some (.inl x3), some (.inl x4), some (.inl (0 : Int32))] [] (by decide +kernel) rfl ?_
        refine s_lsub (ls' := [some (.inr (.inr x0)), none, none, some (.inl x3), some (.inl x4), some (.inl (0 : Int32))]) ⟨rfl, ⟨rfl, ⟨rfl, ⟨rfl, trivial⟩⟩⟩⟩ ?_
        refine sim_bind (L_X12_drawn_38 z7 x0 x3 x4 (0 : Int32) _ (fun r8 => ?_))
        change Sim l G Y_X12_drawn lim _ _ 54 [some (.inr (.inr x0)), none, none, none, some (.inl x4), none] [] r8
        refine s_run (b := [(.aload_n 0, 1), (.iload 4, 2)]) 57 [some (.inr (.inr x0)), none, none, none, some (.inl x4), none] [.inl x4, .inr (.inr x0)] (by decide +kernel) rfl ?_
        refine s_cV (Z := Y_X12_nowOf) (c := 12) (vs := [.inl x4]) (st := []) (rO := fun z => some (.inl z)) (mO := fun _ => r8) zk_X12_nowOf zi_X12_nowOf q1637 rfl ⟨by decide, by decide⟩ ⟨rfl, rfl⟩ rfl rfl (Nat.le_of_ble_eq_true rfl) (by decide +kernel) (fun z hz => c_X12_nowOf hz) (fun v9 => ?_)
        change Sim l G Y_X12_drawn lim _ _ 60 [some (.inr (.inr x0)), none, none, none, some (.inl x4), none] [.inl v9] r8
        exact s_iret (by decide +kernel) rfl
      · skip
        refine s_run (b := [(.bipush (-2), 2)]) 25 [some (.inr (.inr x0)), some (.inl x1), some (.inl x2), some (.inl x3), some (.inl x4), none] [.inl (-2 : Int32)] (by decide +kernel) rfl ?_
        exact s_iret (by decide +kernel) rfl
set_option maxRecDepth 20000 in
theorem c_X12_drawn {l : Launch} {G : Gv} {M : Mem} {x0 : Nat} {x1 : Int32} {x2 : Int32} {x3 : Int32} {x4 : Int32} {z : Int32 × Mem} (h : f_X12_drawn M x0 x1 x2 x3 x4 = some z) : MetS l G Y_X12_drawn [.inr (.inr x0), .inl x1, .inl x2, .inl x3, .inl x4] M (some (.int z.1)) z.2 :=
  met_of (ls0 := [some (.inr (.inr x0)), some (.inl x1), some (.inl x2), some (.inl x3), some (.inl x4), none]) (by decide) rfl (lv_in (m := 1) rfl) (sl_le (Nat.le_of_ble_eq_true rfl)) (by rw [h]; rfl) (Or.inl ⟨rfl, rfl⟩) (S_X12_drawn M x0 x1 x2 x3 x4)
def f_X12_mayServe (M : Mem) (x0 : Nat) (x1 : Int32) (x2 : Int32) : Option (Int32) :=
  (if x1 = x2 then
    (gI M 12 x0 12).bind fun v2 =>
    (if v2 = (1 : Int32) then
      some (1 : Int32)
    else
      some (0 : Int32))
  else
    some (1 : Int32))
set_option maxRecDepth 20000 in
theorem S_X12_mayServe {l : Launch} {G : Gv} {lim : Nat × Nat} (M : Mem) (x0 : Nat) (x1 : Int32) (x2 : Int32) : Sim l G Y_X12_mayServe lim (f_X12_mayServe M x0 x1 x2) (fun z => some (some (.int z), M)) 0 [some (.inr (.inr x0)), some (.inl x1), some (.inl x2)] [] M := by
  unfold f_X12_mayServe
  refine s_run (b := [(.iload_n 1, 1), (.iload_n 2, 1)]) 2 [some (.inr (.inr x0)), some (.inl x1), some (.inl x2)] [.inl x2, .inl x1] (by decide +kernel) rfl ?_
  refine s_ic_ne (tgt := 13) (off := 11) (by decide +kernel) (by decide) (fun h1 => ?_) (fun h1 => ?_)
  · skip
    refine s_run (b := [(.aload_n 0, 1)]) 6 [some (.inr (.inr x0)), some (.inl x1), some (.inl x2)] [.inr (.inr x0)] (by decide +kernel) rfl ?_
    refine s_gI fl_12_162 rfl (by decide +kernel) (fun v2 => ?_)
    refine s_run (b := [(.iconst 1, 1)]) 10 [some (.inr (.inr x0)), some (.inl x1), some (.inl x2)] [.inl (1 : Int32), .inl v2] (by decide +kernel) rfl ?_
    refine s_ic_ne (tgt := 17) (off := 7) (by decide +kernel) (by decide) (fun h3 => ?_) (fun h3 => ?_)
    · skip
      refine s_run (b := [(.iconst 1, 1), (.goto 4, 3)]) 18 [some (.inr (.inr x0)), some (.inl x1), some (.inl x2)] [.inl (1 : Int32)] (by decide +kernel) rfl ?_
      exact s_bret (Or.inr rfl) (by decide +kernel) rfl
    · skip
      refine s_run (b := [(.iconst 0, 1)]) 18 [some (.inr (.inr x0)), some (.inl x1), some (.inl x2)] [.inl (0 : Int32)] (by decide +kernel) rfl ?_
      exact s_bret (Or.inl rfl) (by decide +kernel) rfl
  · skip
    refine s_run (b := [(.iconst 1, 1), (.goto 4, 3)]) 18 [some (.inr (.inr x0)), some (.inl x1), some (.inl x2)] [.inl (1 : Int32)] (by decide +kernel) rfl ?_
    exact s_bret (Or.inr rfl) (by decide +kernel) rfl
set_option maxRecDepth 20000 in
theorem c_X12_mayServe {l : Launch} {G : Gv} {M : Mem} {x0 : Nat} {x1 : Int32} {x2 : Int32} {z : Int32} (h : f_X12_mayServe M x0 x1 x2 = some z) : MetS l G Y_X12_mayServe [.inr (.inr x0), .inl x1, .inl x2] M (some (.int z)) M :=
  met_of (ls0 := [some (.inr (.inr x0)), some (.inl x1), some (.inl x2)]) (by decide) rfl (lv_in (m := 0) rfl) (sl_le (Nat.le_of_ble_eq_true rfl)) (by rw [h]; rfl) (Or.inl ⟨rfl, rfl⟩) (S_X12_mayServe M x0 x1 x2)
def f_X12_serves_B2 (M : Mem) (x0 : Nat) (x1 : Int32) (x2 : Int32) : Option ((Int32 × Mem) ⊕ ((Mem))) :=
  (if (8 : Int32) < x2 then
    some (.inr M)
  else
    (gR M 12 x0 42).bind fun v2 =>
    (sI M 0 v2 x2 (0 : Int32)).bind fun M3 =>
    some (.inl ((x2 + (1 : Int32)), M3)))
def f_X12_serves_L2 (M : Mem) (x0 : Nat) (x1 : Int32) (x2 : Int32) : Option ((Mem)) := iter (fun s : Int32 × Mem => f_X12_serves_B2 s.2 x0 x1 s.1) 1048576 (x2, M)
set_option maxRecDepth 20000 in
theorem B_X12_serves_2 {l : Launch} {G : Gv} {lim : Nat × Nat} (M : Mem) (x0 : Nat) (x1 : Int32) (x2 : Int32) (K : (Int32 × Mem) ⊕ ((Mem)) → Option (Option Value × Mem)) (kk1 : ∀ (s2 : Int32) (s_ : Mem), SimR l G Y_X12_serves lim (K (.inl (s2, s_))) 2 [some (.inr (.inr x0)), some (.inl x1), some (.inl s2), none, none, none, none] [] s_) (kk2_0 : ∀ (s_ : Mem), SimR l G Y_X12_serves lim (K (.inr s_)) 21 [some (.inr (.inr x0)), some (.inl x1), none, none, none, none, none] [] s_) : Sim l G Y_X12_serves lim (f_X12_serves_B2 M x0 x1 x2) K 2 [some (.inr (.inr x0)), some (.inl x1), some (.inl x2), none, none, none, none] [] M := by
  unfold f_X12_serves_B2
  refine s_run (b := [(.iload_n 2, 1), (.bipush 8, 2)]) 5 [some (.inr (.inr x0)), some (.inl x1), some (.inl x2), none, none, none, none] [.inl (8 : Int32), .inl x2] (by decide +kernel) rfl ?_
  refine s_ic_gt (tgt := 21) (off := 16) (by decide +kernel) (by decide) (fun h1 => ?_) (fun h1 => ?_)
  · skip
    exact s_lsub (ls' := [some (.inr (.inr x0)), some (.inl x1), none, none, none, none, none]) ⟨rfl, ⟨rfl, trivial⟩⟩ (kk2_0 M)
  · skip
    refine s_run (b := [(.aload_n 0, 1)]) 9 [some (.inr (.inr x0)), some (.inl x1), some (.inl x2), none, none, none, none] [.inr (.inr x0)] (by decide +kernel) rfl ?_
    refine s_gR fl_12_51 rfl (by decide +kernel) (fun v2 => ?_)
    refine s_run (b := [(.iload_n 2, 1), (.iconst 0, 1)]) 14 [some (.inr (.inr x0)), some (.inl x1), some (.inl x2), none, none, none, none] [.inl (0 : Int32), .inl x2, .inr (.inr v2)] (by decide +kernel) rfl ?_
    refine s_is (by decide +kernel) (fun M3 => ?_)
    refine s_run (b := [(.iinc 2 1, 3), (.goto (-16), 3)]) 2 [some (.inr (.inr x0)), some (.inl x1), some (.inl (x2 + (1 : Int32))), none, none, none, none] [] (by decide +kernel) rfl ?_
    exact s_lsub (ls' := [some (.inr (.inr x0)), some (.inl x1), some (.inl (x2 + (1 : Int32))), none, none, none, none]) ⟨rfl, ⟨rfl, ⟨rfl, trivial⟩⟩⟩ (kk1 (x2 + (1 : Int32)) M3)
set_option maxRecDepth 20000 in
theorem L_X12_serves_2 {l : Launch} {G : Gv} {lim : Nat × Nat} (M : Mem) (x0 : Nat) (x1 : Int32) (x2 : Int32) (K : ((Mem)) → Option (Option Value × Mem)) (kk2_0 : ∀ r : Mem, SimR l G Y_X12_serves lim (K r) 21 [some (.inr (.inr x0)), some (.inl x1), none, none, none, none, none] [] r) : Sim l G Y_X12_serves lim (f_X12_serves_L2 M x0 x1 x2) K 2 [some (.inr (.inr x0)), some (.inl x1), some (.inl x2), none, none, none, none] [] M :=
  s_iter (f := fun s : Int32 × Mem => f_X12_serves_B2 s.2 x0 x1 s.1) (hd := 2) (cl := fun s => [some (.inr (.inr x0)), some (.inl x1), some (.inl s.1), none, none, none, none]) (cm := fun s => s.2) (xp := fun _ => 21) (xl := fun r => [some (.inr (.inr x0)), some (.inl x1), none, none, none, none, none]) (xm := fun r => r) (fun s K h1 h2 => B_X12_serves_2 s.2 x0 x1 s.1 K (fun a2 a_ => h1 (a2, a_)) (fun a_ => h2 a_)) 1048576 (x2, M) K kk2_0
def f_X12_serves_B44 (M : Mem) (x0 : Nat) (x1 : Int32) (x2 : Int32) (x3 : Int32) (x4 : Int32) (x5 : Int32) : Option ((Int32 × Int32) ⊕ ((Int32))) :=
  (gI M 12 x0 12).bind fun v1 =>
  (if v1 ≤ x5 then
    some (.inr x4)
  else
    (ob M 12 x0).bind fun _ => (f_X12_of M x0 x5 (3 : Int32)).bind fun v3 =>
    (gR M 12 x0 42).bind fun v4 =>
    (aI M 0 v4 ((((9 : Int32) * x2) - (9 : Int32)) + x5)).bind fun v5 =>
    (ob M 12 x0).bind fun _ => (f_X12_mayServe M x0 x5 x3).bind fun v6 =>
    (if v6 = 0 then
      some (.inl (x4, (x5 + (1 : Int32))))
    else
      (if x4 ≤ (v3 + v5) then
        some (.inl (x4, (x5 + (1 : Int32))))
      else
        some (.inl ((v3 + v5), (x5 + (1 : Int32)))))))
def f_X12_serves_L44 (M : Mem) (x0 : Nat) (x1 : Int32) (x2 : Int32) (x3 : Int32) (x4 : Int32) (x5 : Int32) : Option ((Int32)) := iter (fun s : Int32 × Int32 => f_X12_serves_B44 M x0 x1 x2 x3 s.1 s.2) 1048576 (x4, x5)
set_option maxRecDepth 20000 in
theorem B_X12_serves_44 {l : Launch} {G : Gv} {lim : Nat × Nat} (M : Mem) (x0 : Nat) (x1 : Int32) (x2 : Int32) (x3 : Int32) (x4 : Int32) (x5 : Int32) (K : (Int32 × Int32) ⊕ ((Int32)) → Option (Option Value × Mem)) (kk1 : ∀ (s4 : Int32) (s5 : Int32), SimR l G Y_X12_serves lim (K (.inl (s4, s5))) 44 [some (.inr (.inr x0)), some (.inl x1), some (.inl x2), some (.inl x3), some (.inl s4), some (.inl s5), none] [] M) (kk2_0 : ∀ (s4 : Int32), SimR l G Y_X12_serves lim (K (.inr s4)) 110 [some (.inr (.inr x0)), some (.inl x1), some (.inl x2), some (.inl x3), some (.inl s4), none, none] [] M) : Sim l G Y_X12_serves lim (f_X12_serves_B44 M x0 x1 x2 x3 x4 x5) K 44 [some (.inr (.inr x0)), some (.inl x1), some (.inl x2), some (.inl x3), some (.inl x4), some (.inl x5), none] [] M := by
  unfold f_X12_serves_B44
  refine s_run (b := [(.iload 5, 2), (.aload_n 0, 1)]) 47 [some (.inr (.inr x0)), some (.inl x1), some (.inl x2), some (.inl x3), some (.inl x4), some (.inl x5), none] [.inr (.inr x0), .inl x5] (by decide +kernel) rfl ?_
  refine s_gI fl_12_162 rfl (by decide +kernel) (fun v1 => ?_)
  refine s_ic_ge (tgt := 110) (off := 60) (by decide +kernel) (by decide) (fun h2 => ?_) (fun h2 => ?_)
  · skip
    exact s_lsub (ls' := [some (.inr (.inr x0)), some (.inl x1), some (.inl x2), some (.inl x3), some (.inl x4), none, none]) ⟨rfl, ⟨rfl, ⟨rfl, ⟨rfl, ⟨rfl, trivial⟩⟩⟩⟩⟩ (kk2_0 x4)
  · skip
    refine s_run (b := [(.aload_n 0, 1), (.iload 5, 2), (.iconst 3, 1)]) 57 [some (.inr (.inr x0)), some (.inl x1), some (.inl x2), some (.inl x3), some (.inl x4), some (.inl x5), none] [.inl (3 : Int32), .inl x5, .inr (.inr x0)] (by decide +kernel) rfl ?_
    refine s_cV (Z := Y_X12_of) (c := 12) (vs := [.inl x5, .inl (3 : Int32)]) (st := []) (rO := fun z => some (.inl z)) (mO := fun _ => M) zk_X12_of zi_X12_of q1558 rfl ⟨by decide, by decide⟩ ⟨rfl, rfl⟩ rfl rfl (Nat.le_of_ble_eq_true rfl) (by decide +kernel) (fun z hz => c_X12_of hz) (fun v3 => ?_)
    change Sim l G Y_X12_serves lim _ _ 60 [some (.inr (.inr x0)), some (.inl x1), some (.inl x2), some (.inl x3), some (.inl x4), some (.inl x5), none] [.inl v3] M
    refine s_run (b := [(.aload_n 0, 1)]) 61 [some (.inr (.inr x0)), some (.inl x1), some (.inl x2), some (.inl x3), some (.inl x4), some (.inl x5), none] [.inr (.inr x0), .inl v3] (by decide +kernel) rfl ?_
    refine s_gR fl_12_51 rfl (by decide +kernel) (fun v4 => ?_)
    refine s_run (b := [(.bipush 9, 2), (.iload_n 2, 1), (.imul, 1), (.bipush 9, 2), (.isub, 1), (.iload 5, 2), (.iadd, 1)]) 74 [some (.inr (.inr x0)), some (.inl x1), some (.inl x2), some (.inl x3), some (.inl x4), some (.inl x5), none] [.inl ((((9 : Int32) * x2) - (9 : Int32)) + x5), .inr (.inr v4), .inl v3] (by decide +kernel) rfl ?_
    refine s_ia (by decide +kernel) (fun v5 => ?_)
    refine s_run (b := [(.iadd, 1), (.istore 6, 2), (.aload_n 0, 1), (.iload 5, 2), (.iload_n 3, 1)]) 82 [some (.inr (.inr x0)), some (.inl x1), some (.inl x2), some (.inl x3), some (.inl x4), some (.inl x5), some (.inl (v3 + v5))] [.inl x3, .inl x5, .inr (.inr x0)] (by decide +kernel) rfl ?_
    refine s_cV (Z := Y_X12_mayServe) (c := 12) (vs := [.inl x5, .inl x3]) (st := []) (rO := fun z => some (.inl z)) (mO := fun _ => M) zk_X12_mayServe zi_X12_mayServe q1890 rfl ⟨by decide, by decide⟩ ⟨rfl, rfl⟩ rfl rfl (Nat.le_of_ble_eq_true rfl) (by decide +kernel) (fun z hz => c_X12_mayServe hz) (fun v6 => ?_)
    change Sim l G Y_X12_serves lim _ _ 85 [some (.inr (.inr x0)), some (.inl x1), some (.inl x2), some (.inl x3), some (.inl x4), some (.inl x5), some (.inl (v3 + v5))] [.inl v6] M
    refine s_if_eq (tgt := 100) (off := 15) (by decide +kernel) (by decide) (fun h7 => ?_) (fun h7 => ?_)
    · skip
      refine s_run (b := [(.iload 4, 2), (.istore 4, 2), (.iinc 5 1, 3), (.goto (-63), 3)]) 44 [some (.inr (.inr x0)), some (.inl x1), some (.inl x2), some (.inl x3), some (.inl x4), some (.inl (x5 + (1 : Int32))), some (.inl (v3 + v5))] [] (by decide +kernel) rfl ?_
      exact s_lsub (ls' := [some (.inr (.inr x0)), some (.inl x1), some (.inl x2), some (.inl x3), some (.inl x4), some (.inl (x5 + (1 : Int32))), none]) ⟨rfl, ⟨rfl, ⟨rfl, ⟨rfl, ⟨rfl, ⟨rfl, trivial⟩⟩⟩⟩⟩⟩ (kk1 x4 (x5 + (1 : Int32)))
    · skip
      refine s_run (b := [(.iload 6, 2), (.iload 4, 2)]) 92 [some (.inr (.inr x0)), some (.inl x1), some (.inl x2), some (.inl x3), some (.inl x4), some (.inl x5), some (.inl (v3 + v5))] [.inl x4, .inl (v3 + v5)] (by decide +kernel) rfl ?_
      refine s_ic_ge (tgt := 100) (off := 8) (by decide +kernel) (by decide) (fun h8 => ?_) (fun h8 => ?_)
      · skip
        refine s_run (b := [(.iload 4, 2), (.istore 4, 2), (.iinc 5 1, 3), (.goto (-63), 3)]) 44 [some (.inr (.inr x0)), some (.inl x1), some (.inl x2), some (.inl x3), some (.inl x4), some (.inl (x5 + (1 : Int32))), some (.inl (v3 + v5))] [] (by decide +kernel) rfl ?_
        exact s_lsub (ls' := [some (.inr (.inr x0)), some (.inl x1), some (.inl x2), some (.inl x3), some (.inl x4), some (.inl (x5 + (1 : Int32))), none]) ⟨rfl, ⟨rfl, ⟨rfl, ⟨rfl, ⟨rfl, ⟨rfl, trivial⟩⟩⟩⟩⟩⟩ (kk1 x4 (x5 + (1 : Int32)))
      · skip
        refine s_run (b := [(.iload 6, 2), (.goto 5, 3), (.istore 4, 2), (.iinc 5 1, 3), (.goto (-63), 3)]) 44 [some (.inr (.inr x0)), some (.inl x1), some (.inl x2), some (.inl x3), some (.inl (v3 + v5)), some (.inl (x5 + (1 : Int32))), some (.inl (v3 + v5))] [] (by decide +kernel) rfl ?_
        exact s_lsub (ls' := [some (.inr (.inr x0)), some (.inl x1), some (.inl x2), some (.inl x3), some (.inl (v3 + v5)), some (.inl (x5 + (1 : Int32))), none]) ⟨rfl, ⟨rfl, ⟨rfl, ⟨rfl, ⟨rfl, ⟨rfl, trivial⟩⟩⟩⟩⟩⟩ (kk1 (v3 + v5) (x5 + (1 : Int32)))
set_option maxRecDepth 20000 in
theorem L_X12_serves_44 {l : Launch} {G : Gv} {lim : Nat × Nat} (M : Mem) (x0 : Nat) (x1 : Int32) (x2 : Int32) (x3 : Int32) (x4 : Int32) (x5 : Int32) (K : ((Int32)) → Option (Option Value × Mem)) (kk2_0 : ∀ r : Int32, SimR l G Y_X12_serves lim (K r) 110 [some (.inr (.inr x0)), some (.inl x1), some (.inl x2), some (.inl x3), some (.inl r), none, none] [] M) : Sim l G Y_X12_serves lim (f_X12_serves_L44 M x0 x1 x2 x3 x4 x5) K 44 [some (.inr (.inr x0)), some (.inl x1), some (.inl x2), some (.inl x3), some (.inl x4), some (.inl x5), none] [] M :=
  s_iter (f := fun s : Int32 × Int32 => f_X12_serves_B44 M x0 x1 x2 x3 s.1 s.2) (hd := 44) (cl := fun s => [some (.inr (.inr x0)), some (.inl x1), some (.inl x2), some (.inl x3), some (.inl s.1), some (.inl s.2), none]) (cm := fun s => M) (xp := fun _ => 110) (xl := fun r => [some (.inr (.inr x0)), some (.inl x1), some (.inl x2), some (.inl x3), some (.inl r), none, none]) (xm := fun r => M) (fun s K h1 h2 => B_X12_serves_44 M x0 x1 x2 x3 s.1 s.2 K (fun a4 a5 => h1 (a4, a5)) (fun a4 => h2 a4)) 1048576 (x4, x5) K kk2_0
def f_X12_serves_B30 (M : Mem) (x0 : Nat) (x1 : Int32) (x2 : Int32) (x3 : Int32) : Option ((Int32 × Mem) ⊕ ((Mem))) :=
  (if (8 : Int32) < x3 then
    some (.inr M)
  else
    (f_X12_serves_L44 M x0 x1 x2 x3 (9999 : Int32) (0 : Int32)).bind fun r2 =>
    (gR M 12 x0 42).bind fun v3 =>
    (sI M 0 v3 (((9 : Int32) * x2) + x3) r2).bind fun M4 =>
    some (.inl ((x3 + (1 : Int32)), M4)))
def f_X12_serves_L30 (M : Mem) (x0 : Nat) (x1 : Int32) (x2 : Int32) (x3 : Int32) : Option ((Mem)) := iter (fun s : Int32 × Mem => f_X12_serves_B30 s.2 x0 x1 x2 s.1) 1048576 (x3, M)
set_option maxRecDepth 20000 in
theorem B_X12_serves_30 {l : Launch} {G : Gv} {lim : Nat × Nat} (M : Mem) (x0 : Nat) (x1 : Int32) (x2 : Int32) (x3 : Int32) (K : (Int32 × Mem) ⊕ ((Mem)) → Option (Option Value × Mem)) (kk1 : ∀ (s3 : Int32) (s_ : Mem), SimR l G Y_X12_serves lim (K (.inl (s3, s_))) 30 [some (.inr (.inr x0)), some (.inl x1), some (.inl x2), some (.inl s3), none, none, none] [] s_) (kk2_0 : ∀ (s_ : Mem), SimR l G Y_X12_serves lim (K (.inr s_)) 129 [some (.inr (.inr x0)), some (.inl x1), some (.inl x2), none, none, none, none] [] s_) : Sim l G Y_X12_serves lim (f_X12_serves_B30 M x0 x1 x2 x3) K 30 [some (.inr (.inr x0)), some (.inl x1), some (.inl x2), some (.inl x3), none, none, none] [] M := by
  unfold f_X12_serves_B30
  refine s_run (b := [(.iload_n 3, 1), (.bipush 8, 2)]) 33 [some (.inr (.inr x0)), some (.inl x1), some (.inl x2), some (.inl x3), none, none, none] [.inl (8 : Int32), .inl x3] (by decide +kernel) rfl ?_
  refine s_ic_gt (tgt := 129) (off := 96) (by decide +kernel) (by decide) (fun h1 => ?_) (fun h1 => ?_)
  · skip
    exact s_lsub (ls' := [some (.inr (.inr x0)), some (.inl x1), some (.inl x2), none, none, none, none]) ⟨rfl, ⟨rfl, ⟨rfl, trivial⟩⟩⟩ (kk2_0 M)
  · skip
    refine s_run (b := [(.sipush 9999, 3), (.istore 4, 2), (.iconst 0, 1), (.istore 5, 2)]) 44 [some (.inr (.inr x0)), some (.inl x1), some (.inl x2), some (.inl x3), some (.inl (9999 : Int32)), some (.inl (0 : Int32)), none] [] (by decide +kernel) rfl ?_
    refine s_lsub (ls' := [some (.inr (.inr x0)), some (.inl x1), some (.inl x2), some (.inl x3), some (.inl (9999 : Int32)), some (.inl (0 : Int32)), none]) ⟨rfl, ⟨rfl, ⟨rfl, ⟨rfl, ⟨rfl, ⟨rfl, trivial⟩⟩⟩⟩⟩⟩ ?_
    refine sim_bind (L_X12_serves_44 M x0 x1 x2 x3 (9999 : Int32) (0 : Int32) _ (fun r2 => ?_))
    change Sim l G Y_X12_serves lim _ _ 110 [some (.inr (.inr x0)), some (.inl x1), some (.inl x2), some (.inl x3), some (.inl r2), none, none] [] M
    refine s_run (b := [(.aload_n 0, 1)]) 111 [some (.inr (.inr x0)), some (.inl x1), some (.inl x2), some (.inl x3), some (.inl r2), none, none] [.inr (.inr x0)] (by decide +kernel) rfl ?_
    refine s_gR fl_12_51 rfl (by decide +kernel) (fun v3 => ?_)
    refine s_run (b := [(.bipush 9, 2), (.iload_n 2, 1), (.imul, 1), (.iload_n 3, 1), (.iadd, 1), (.iload 4, 2)]) 122 [some (.inr (.inr x0)), some (.inl x1), some (.inl x2), some (.inl x3), some (.inl r2), none, none] [.inl r2, .inl (((9 : Int32) * x2) + x3), .inr (.inr v3)] (by decide +kernel) rfl ?_
    refine s_is (by decide +kernel) (fun M4 => ?_)
    refine s_run (b := [(.iinc 3 1, 3), (.goto (-96), 3)]) 30 [some (.inr (.inr x0)), some (.inl x1), some (.inl x2), some (.inl (x3 + (1 : Int32))), some (.inl r2), none, none] [] (by decide +kernel) rfl ?_
    exact s_lsub (ls' := [some (.inr (.inr x0)), some (.inl x1), some (.inl x2), some (.inl (x3 + (1 : Int32))), none, none, none]) ⟨rfl, ⟨rfl, ⟨rfl, ⟨rfl, trivial⟩⟩⟩⟩ (kk1 (x3 + (1 : Int32)) M4)
set_option maxRecDepth 20000 in
theorem L_X12_serves_30 {l : Launch} {G : Gv} {lim : Nat × Nat} (M : Mem) (x0 : Nat) (x1 : Int32) (x2 : Int32) (x3 : Int32) (K : ((Mem)) → Option (Option Value × Mem)) (kk2_0 : ∀ r : Mem, SimR l G Y_X12_serves lim (K r) 129 [some (.inr (.inr x0)), some (.inl x1), some (.inl x2), none, none, none, none] [] r) : Sim l G Y_X12_serves lim (f_X12_serves_L30 M x0 x1 x2 x3) K 30 [some (.inr (.inr x0)), some (.inl x1), some (.inl x2), some (.inl x3), none, none, none] [] M :=
  s_iter (f := fun s : Int32 × Mem => f_X12_serves_B30 s.2 x0 x1 x2 s.1) (hd := 30) (cl := fun s => [some (.inr (.inr x0)), some (.inl x1), some (.inl x2), some (.inl s.1), none, none, none]) (cm := fun s => s.2) (xp := fun _ => 129) (xl := fun r => [some (.inr (.inr x0)), some (.inl x1), some (.inl x2), none, none, none, none]) (xm := fun r => r) (fun s K h1 h2 => B_X12_serves_30 s.2 x0 x1 x2 s.1 K (fun a3 a_ => h1 (a3, a_)) (fun a_ => h2 a_)) 1048576 (x3, M) K kk2_0
def f_X12_serves_B23 (M : Mem) (x0 : Nat) (x1 : Int32) (x2 : Int32) : Option ((Int32 × Mem) ⊕ ((Mem))) :=
  (if x1 < x2 then
    some (.inr M)
  else
    (f_X12_serves_L30 M x0 x1 x2 (0 : Int32)).bind fun r2 =>
    some (.inl ((x2 + (1 : Int32)), r2)))
def f_X12_serves_L23 (M : Mem) (x0 : Nat) (x1 : Int32) (x2 : Int32) : Option ((Mem)) := iter (fun s : Int32 × Mem => f_X12_serves_B23 s.2 x0 x1 s.1) 1048576 (x2, M)
set_option maxRecDepth 20000 in
theorem B_X12_serves_23 {l : Launch} {G : Gv} {lim : Nat × Nat} (M : Mem) (x0 : Nat) (x1 : Int32) (x2 : Int32) (K : (Int32 × Mem) ⊕ ((Mem)) → Option (Option Value × Mem)) (kk1 : ∀ (s2 : Int32) (s_ : Mem), SimR l G Y_X12_serves lim (K (.inl (s2, s_))) 23 [some (.inr (.inr x0)), some (.inl x1), some (.inl s2), none, none, none, none] [] s_) (kk2_0 : ∀ (s_ : Mem), SimR l G Y_X12_serves lim (K (.inr s_)) 135 [none, none, none, none, none, none, none] [] s_) : Sim l G Y_X12_serves lim (f_X12_serves_B23 M x0 x1 x2) K 23 [some (.inr (.inr x0)), some (.inl x1), some (.inl x2), none, none, none, none] [] M := by
  unfold f_X12_serves_B23
  refine s_run (b := [(.iload_n 2, 1), (.iload_n 1, 1)]) 25 [some (.inr (.inr x0)), some (.inl x1), some (.inl x2), none, none, none, none] [.inl x1, .inl x2] (by decide +kernel) rfl ?_
  refine s_ic_gt (tgt := 135) (off := 110) (by decide +kernel) (by decide) (fun h1 => ?_) (fun h1 => ?_)
  · skip
    exact s_lsub (ls' := [none, none, none, none, none, none, none]) trivial (kk2_0 M)
  · skip
    refine s_run (b := [(.iconst 0, 1), (.istore_n 3, 1)]) 30 [some (.inr (.inr x0)), some (.inl x1), some (.inl x2), some (.inl (0 : Int32)), none, none, none] [] (by decide +kernel) rfl ?_
    refine s_lsub (ls' := [some (.inr (.inr x0)), some (.inl x1), some (.inl x2), some (.inl (0 : Int32)), none, none, none]) ⟨rfl, ⟨rfl, ⟨rfl, ⟨rfl, trivial⟩⟩⟩⟩ ?_
    refine sim_bind (L_X12_serves_30 M x0 x1 x2 (0 : Int32) _ (fun r2 => ?_))
    change Sim l G Y_X12_serves lim _ _ 129 [some (.inr (.inr x0)), some (.inl x1), some (.inl x2), none, none, none, none] [] r2
    refine s_run (b := [(.iinc 2 1, 3), (.goto (-109), 3)]) 23 [some (.inr (.inr x0)), some (.inl x1), some (.inl (x2 + (1 : Int32))), none, none, none, none] [] (by decide +kernel) rfl ?_
    exact s_lsub (ls' := [some (.inr (.inr x0)), some (.inl x1), some (.inl (x2 + (1 : Int32))), none, none, none, none]) ⟨rfl, ⟨rfl, ⟨rfl, trivial⟩⟩⟩ (kk1 (x2 + (1 : Int32)) r2)
set_option maxRecDepth 20000 in
theorem L_X12_serves_23 {l : Launch} {G : Gv} {lim : Nat × Nat} (M : Mem) (x0 : Nat) (x1 : Int32) (x2 : Int32) (K : ((Mem)) → Option (Option Value × Mem)) (kk2_0 : ∀ r : Mem, SimR l G Y_X12_serves lim (K r) 135 [none, none, none, none, none, none, none] [] r) : Sim l G Y_X12_serves lim (f_X12_serves_L23 M x0 x1 x2) K 23 [some (.inr (.inr x0)), some (.inl x1), some (.inl x2), none, none, none, none] [] M :=
  s_iter (f := fun s : Int32 × Mem => f_X12_serves_B23 s.2 x0 x1 s.1) (hd := 23) (cl := fun s => [some (.inr (.inr x0)), some (.inl x1), some (.inl s.1), none, none, none, none]) (cm := fun s => s.2) (xp := fun _ => 135) (xl := fun r => [none, none, none, none, none, none, none]) (xm := fun r => r) (fun s K h1 h2 => B_X12_serves_23 s.2 x0 x1 s.1 K (fun a2 a_ => h1 (a2, a_)) (fun a_ => h2 a_)) 1048576 (x2, M) K kk2_0
def f_X12_serves (M : Mem) (x0 : Nat) (x1 : Int32) : Option (Mem) :=
  (f_X12_serves_L2 M x0 x1 (0 : Int32)).bind fun r1 =>
  (f_X12_serves_L23 r1 x0 x1 (1 : Int32)).bind fun r2 =>
  some r2
set_option maxRecDepth 20000 in
theorem S_X12_serves {l : Launch} {G : Gv} {lim : Nat × Nat} (M : Mem) (x0 : Nat) (x1 : Int32) : Sim l G Y_X12_serves lim (f_X12_serves M x0 x1) (fun z => some (none, z)) 0 [some (.inr (.inr x0)), some (.inl x1), none, none, none, none, none] [] M := by
  unfold f_X12_serves
  refine s_run (b := [(.iconst 0, 1), (.istore_n 2, 1)]) 2 [some (.inr (.inr x0)), some (.inl x1), some (.inl (0 : Int32)), none, none, none, none] [] (by decide +kernel) rfl ?_
  refine s_lsub (ls' := [some (.inr (.inr x0)), some (.inl x1), some (.inl (0 : Int32)), none, none, none, none]) ⟨rfl, ⟨rfl, ⟨rfl, trivial⟩⟩⟩ ?_
  refine sim_bind (L_X12_serves_2 M x0 x1 (0 : Int32) _ (fun r1 => ?_))
  change Sim l G Y_X12_serves lim _ _ 21 [some (.inr (.inr x0)), some (.inl x1), none, none, none, none, none] [] r1
  refine s_run (b := [(.iconst 1, 1), (.istore_n 2, 1)]) 23 [some (.inr (.inr x0)), some (.inl x1), some (.inl (1 : Int32)), none, none, none, none] [] (by decide +kernel) rfl ?_
  refine s_lsub (ls' := [some (.inr (.inr x0)), some (.inl x1), some (.inl (1 : Int32)), none, none, none, none]) ⟨rfl, ⟨rfl, ⟨rfl, trivial⟩⟩⟩ ?_
  refine sim_bind (L_X12_serves_23 r1 x0 x1 (1 : Int32) _ (fun r2 => ?_))
  change Sim l G Y_X12_serves lim _ _ 135 [none, none, none, none, none, none, none] [] r2
  exact s_vret (by decide +kernel) rfl
set_option maxRecDepth 20000 in
theorem c_X12_serves {l : Launch} {G : Gv} {M : Mem} {x0 : Nat} {x1 : Int32} {z : Mem} (h : f_X12_serves M x0 x1 = some z) : MetS l G Y_X12_serves [.inr (.inr x0), .inl x1] M none z :=
  met_of (ls0 := [some (.inr (.inr x0)), some (.inl x1), none, none, none, none, none]) (by decide) rfl (lv_in (m := 5) rfl) (sl_le (Nat.le_of_ble_eq_true rfl)) (by rw [h]; rfl) (Or.inl ⟨rfl, rfl⟩) (S_X12_serves M x0 x1)
def f_X12_duty_B87 (M : Mem) (x0 : Nat) (x2 : Int32) (x3 : Int32) (x4 : Int32) (x5 : Int32) (x6 : Int32) (x7 : Int32) : Option ((Int32) ⊕ ((Int32))) :=
  (ob M 12 x0).bind fun _ => (f_X12_mayServe M x0 x7 x4).bind fun v1 =>
  (if v1 = 0 then
    some (.inl (x7 + (1 : Int32)))
  else
    (ob M 12 x0).bind fun _ => (f_X12_of M x0 x7 (3 : Int32)).bind fun v3 =>
    (gR M 12 x0 42).bind fun v4 =>
    (aI M 0 v4 ((((9 : Int32) * x6) - (9 : Int32)) + x7)).bind fun v5 =>
    (gR M 12 x0 42).bind fun v6 =>
    (aI M 0 v6 (((9 : Int32) * x6) + x4)).bind fun v7 =>
    (if (v3 + v5) = v7 then
      some (.inr x7)
    else
      some (.inl (x7 + (1 : Int32)))))
def f_X12_duty_L87 (M : Mem) (x0 : Nat) (x2 : Int32) (x3 : Int32) (x4 : Int32) (x5 : Int32) (x6 : Int32) (x7 : Int32) : Option ((Int32)) := iter (fun s : Int32 => f_X12_duty_B87 M x0 x2 x3 x4 x5 x6 s) 1048576 x7
set_option maxRecDepth 20000 in
theorem B_X12_duty_87 {l : Launch} {G : Gv} {lim : Nat × Nat} (M : Mem) (x0 : Nat) (x2 : Int32) (x3 : Int32) (x4 : Int32) (x5 : Int32) (x6 : Int32) (x7 : Int32) (K : (Int32) ⊕ ((Int32)) → Option (Option Value × Mem)) (kk1 : ∀ (s7 : Int32), SimR l G Y_X12_duty lim (K (.inl s7)) 87 [some (.inr (.inr x0)), none, some (.inl x2), some (.inl x3), some (.inl x4), some (.inl x5), some (.inl x6), some (.inl s7)] [] M) (kk2_0 : ∀ (s7 : Int32), SimR l G Y_X12_duty lim (K (.inr s7)) 144 [some (.inr (.inr x0)), none, some (.inl x2), some (.inl x3), none, some (.inl x5), none, some (.inl s7)] [] M) : Sim l G Y_X12_duty lim (f_X12_duty_B87 M x0 x2 x3 x4 x5 x6 x7) K 87 [some (.inr (.inr x0)), none, some (.inl x2), some (.inl x3), some (.inl x4), some (.inl x5), some (.inl x6), some (.inl x7)] [] M := by
  unfold f_X12_duty_B87
  refine s_run (b := [(.aload_n 0, 1), (.iload 7, 2), (.iload 4, 2)]) 92 [some (.inr (.inr x0)), none, some (.inl x2), some (.inl x3), some (.inl x4), some (.inl x5), some (.inl x6), some (.inl x7)] [.inl x4, .inl x7, .inr (.inr x0)] (by decide +kernel) rfl ?_
  refine s_cV (Z := Y_X12_mayServe) (c := 12) (vs := [.inl x7, .inl x4]) (st := []) (rO := fun z => some (.inl z)) (mO := fun _ => M) zk_X12_mayServe zi_X12_mayServe q1890 rfl ⟨by decide, by decide⟩ ⟨rfl, rfl⟩ rfl rfl (Nat.le_of_ble_eq_true rfl) (by decide +kernel) (fun z hz => c_X12_mayServe hz) (fun v1 => ?_)
  change Sim l G Y_X12_duty lim _ _ 95 [some (.inr (.inr x0)), none, some (.inl x2), some (.inl x3), some (.inl x4), some (.inl x5), some (.inl x6), some (.inl x7)] [.inl v1] M
  refine s_if_eq (tgt := 138) (off := 43) (by decide +kernel) (by decide) (fun h2 => ?_) (fun h2 => ?_)
  · skip
    refine s_run (b := [(.iinc 7 1, 3), (.goto (-54), 3)]) 87 [some (.inr (.inr x0)), none, some (.inl x2), some (.inl x3), some (.inl x4), some (.inl x5), some (.inl x6), some (.inl (x7 + (1 : Int32)))] [] (by decide +kernel) rfl ?_
    exact s_lsub (ls' := [some (.inr (.inr x0)), none, some (.inl x2), some (.inl x3), some (.inl x4), some (.inl x5), some (.inl x6), some (.inl (x7 + (1 : Int32)))]) ⟨rfl, ⟨rfl, ⟨rfl, ⟨rfl, ⟨rfl, ⟨rfl, ⟨rfl, trivial⟩⟩⟩⟩⟩⟩⟩ (kk1 (x7 + (1 : Int32)))
  · skip
    refine s_run (b := [(.aload_n 0, 1), (.iload 7, 2), (.iconst 3, 1)]) 102 [some (.inr (.inr x0)), none, some (.inl x2), some (.inl x3), some (.inl x4), some (.inl x5), some (.inl x6), some (.inl x7)] [.inl (3 : Int32), .inl x7, .inr (.inr x0)] (by decide +kernel) rfl ?_
    refine s_cV (Z := Y_X12_of) (c := 12) (vs := [.inl x7, .inl (3 : Int32)]) (st := []) (rO := fun z => some (.inl z)) (mO := fun _ => M) zk_X12_of zi_X12_of q1558 rfl ⟨by decide, by decide⟩ ⟨rfl, rfl⟩ rfl rfl (Nat.le_of_ble_eq_true rfl) (by decide +kernel) (fun z hz => c_X12_of hz) (fun v3 => ?_)
    change Sim l G Y_X12_duty lim _ _ 105 [some (.inr (.inr x0)), none, some (.inl x2), some (.inl x3), some (.inl x4), some (.inl x5), some (.inl x6), some (.inl x7)] [.inl v3] M
    refine s_run (b := [(.aload_n 0, 1)]) 106 [some (.inr (.inr x0)), none, some (.inl x2), some (.inl x3), some (.inl x4), some (.inl x5), some (.inl x6), some (.inl x7)] [.inr (.inr x0), .inl v3] (by decide +kernel) rfl ?_
    refine s_gR fl_12_51 rfl (by decide +kernel) (fun v4 => ?_)
    refine s_run (b := [(.bipush 9, 2), (.iload 6, 2), (.imul, 1), (.bipush 9, 2), (.isub, 1), (.iload 7, 2), (.iadd, 1)]) 120 [some (.inr (.inr x0)), none, some (.inl x2), some (.inl x3), some (.inl x4), some (.inl x5), some (.inl x6), some (.inl x7)] [.inl ((((9 : Int32) * x6) - (9 : Int32)) + x7), .inr (.inr v4), .inl v3] (by decide +kernel) rfl ?_
    refine s_ia (by decide +kernel) (fun v5 => ?_)
    refine s_run (b := [(.iadd, 1), (.aload_n 0, 1)]) 123 [some (.inr (.inr x0)), none, some (.inl x2), some (.inl x3), some (.inl x4), some (.inl x5), some (.inl x6), some (.inl x7)] [.inr (.inr x0), .inl (v3 + v5)] (by decide +kernel) rfl ?_
    refine s_gR fl_12_51 rfl (by decide +kernel) (fun v6 => ?_)
    refine s_run (b := [(.bipush 9, 2), (.iload 6, 2), (.imul, 1), (.iload 4, 2), (.iadd, 1)]) 134 [some (.inr (.inr x0)), none, some (.inl x2), some (.inl x3), some (.inl x4), some (.inl x5), some (.inl x6), some (.inl x7)] [.inl (((9 : Int32) * x6) + x4), .inr (.inr v6), .inl (v3 + v5)] (by decide +kernel) rfl ?_
    refine s_ia (by decide +kernel) (fun v7 => ?_)
    refine s_ic_eq (tgt := 144) (off := 9) (by decide +kernel) (by decide) (fun h8 => ?_) (fun h8 => ?_)
    · skip
      exact s_lsub (ls' := [some (.inr (.inr x0)), none, some (.inl x2), some (.inl x3), none, some (.inl x5), none, some (.inl x7)]) ⟨rfl, ⟨rfl, ⟨rfl, ⟨rfl, ⟨rfl, trivial⟩⟩⟩⟩⟩ (kk2_0 x7)
    · skip
      refine s_run (b := [(.iinc 7 1, 3), (.goto (-54), 3)]) 87 [some (.inr (.inr x0)), none, some (.inl x2), some (.inl x3), some (.inl x4), some (.inl x5), some (.inl x6), some (.inl (x7 + (1 : Int32)))] [] (by decide +kernel) rfl ?_
      exact s_lsub (ls' := [some (.inr (.inr x0)), none, some (.inl x2), some (.inl x3), some (.inl x4), some (.inl x5), some (.inl x6), some (.inl (x7 + (1 : Int32)))]) ⟨rfl, ⟨rfl, ⟨rfl, ⟨rfl, ⟨rfl, ⟨rfl, ⟨rfl, trivial⟩⟩⟩⟩⟩⟩⟩ (kk1 (x7 + (1 : Int32)))
set_option maxRecDepth 20000 in
theorem L_X12_duty_87 {l : Launch} {G : Gv} {lim : Nat × Nat} (M : Mem) (x0 : Nat) (x2 : Int32) (x3 : Int32) (x4 : Int32) (x5 : Int32) (x6 : Int32) (x7 : Int32) (K : ((Int32)) → Option (Option Value × Mem)) (kk2_0 : ∀ r : Int32, SimR l G Y_X12_duty lim (K r) 144 [some (.inr (.inr x0)), none, some (.inl x2), some (.inl x3), none, some (.inl x5), none, some (.inl r)] [] M) : Sim l G Y_X12_duty lim (f_X12_duty_L87 M x0 x2 x3 x4 x5 x6 x7) K 87 [some (.inr (.inr x0)), none, some (.inl x2), some (.inl x3), some (.inl x4), some (.inl x5), some (.inl x6), some (.inl x7)] [] M :=
  s_iter (f := fun s : Int32 => f_X12_duty_B87 M x0 x2 x3 x4 x5 x6 s) (hd := 87) (cl := fun s => [some (.inr (.inr x0)), none, some (.inl x2), some (.inl x3), some (.inl x4), some (.inl x5), some (.inl x6), some (.inl s)]) (cm := fun s => M) (xp := fun _ => 144) (xl := fun r => [some (.inr (.inr x0)), none, some (.inl x2), some (.inl x3), none, some (.inl x5), none, some (.inl r)]) (xm := fun r => M) (fun s K h1 h2 => B_X12_duty_87 M x0 x2 x3 x4 x5 x6 s K (fun a7 => h1 a7) (fun a7 => h2 a7)) 1048576 x7 K kk2_0
def f_X12_duty_B72 (M : Mem) (x0 : Nat) (x2 : Int32) (x3 : Int32) (x4 : Int32) (x5 : Int32) : Option ((Int32 × Int32) ⊕ ((Int32))) :=
  (if x3 < x5 then
    some (.inr x4)
  else
    (f_X12_duty_L87 M x0 x2 x3 x4 x5 (x2 - x5) (0 : Int32)).bind fun r2 =>
    some (.inl (r2, (x5 + (1 : Int32)))))
def f_X12_duty_L72 (M : Mem) (x0 : Nat) (x2 : Int32) (x3 : Int32) (x4 : Int32) (x5 : Int32) : Option ((Int32)) := iter (fun s : Int32 × Int32 => f_X12_duty_B72 M x0 x2 x3 s.1 s.2) 1048576 (x4, x5)
set_option maxRecDepth 20000 in
theorem B_X12_duty_72 {l : Launch} {G : Gv} {lim : Nat × Nat} (M : Mem) (x0 : Nat) (x2 : Int32) (x3 : Int32) (x4 : Int32) (x5 : Int32) (K : (Int32 × Int32) ⊕ ((Int32)) → Option (Option Value × Mem)) (kk1 : ∀ (s4 : Int32) (s5 : Int32), SimR l G Y_X12_duty lim (K (.inl (s4, s5))) 72 [some (.inr (.inr x0)), none, some (.inl x2), some (.inl x3), some (.inl s4), some (.inl s5), none, none] [] M) (kk2_0 : ∀ (s4 : Int32), SimR l G Y_X12_duty lim (K (.inr s4)) 154 [none, none, none, none, some (.inl s4), none, none, none] [] M) : Sim l G Y_X12_duty lim (f_X12_duty_B72 M x0 x2 x3 x4 x5) K 72 [some (.inr (.inr x0)), none, some (.inl x2), some (.inl x3), some (.inl x4), some (.inl x5), none, none] [] M := by
  unfold f_X12_duty_B72
  refine s_run (b := [(.iload 5, 2), (.iload_n 3, 1)]) 75 [some (.inr (.inr x0)), none, some (.inl x2), some (.inl x3), some (.inl x4), some (.inl x5), none, none] [.inl x3, .inl x5] (by decide +kernel) rfl ?_
  refine s_ic_gt (tgt := 154) (off := 79) (by decide +kernel) (by decide) (fun h1 => ?_) (fun h1 => ?_)
  · skip
    exact s_lsub (ls' := [none, none, none, none, some (.inl x4), none, none, none]) ⟨rfl, trivial⟩ (kk2_0 x4)
  · skip
    refine s_run (b := [(.iload_n 2, 1), (.iload 5, 2), (.isub, 1), (.istore 6, 2), (.iconst 0, 1), (.istore 7, 2)]) 87 [some (.inr (.inr x0)), none, some (.inl x2), some (.inl x3), some (.inl x4), some (.inl x5), some (.inl (x2 - x5)), some (.inl (0 : Int32))] [] (by decide +kernel) rfl ?_
    refine s_lsub (ls' := [some (.inr (.inr x0)), none, some (.inl x2), some (.inl x3), some (.inl x4), some (.inl x5), some (.inl (x2 - x5)), some (.inl (0 : Int32))]) ⟨rfl, ⟨rfl, ⟨rfl, ⟨rfl, ⟨rfl, ⟨rfl, ⟨rfl, trivial⟩⟩⟩⟩⟩⟩⟩ ?_
    refine sim_bind (L_X12_duty_87 M x0 x2 x3 x4 x5 (x2 - x5) (0 : Int32) _ (fun r2 => ?_))
    change Sim l G Y_X12_duty lim _ _ 144 [some (.inr (.inr x0)), none, some (.inl x2), some (.inl x3), none, some (.inl x5), none, some (.inl r2)] [] M
    refine s_run (b := [(.iload 7, 2), (.istore 4, 2), (.iinc 5 1, 3), (.goto (-79), 3)]) 72 [some (.inr (.inr x0)), none, some (.inl x2), some (.inl x3), some (.inl r2), some (.inl (x5 + (1 : Int32))), none, some (.inl r2)] [] (by decide +kernel) rfl ?_
    exact s_lsub (ls' := [some (.inr (.inr x0)), none, some (.inl x2), some (.inl x3), some (.inl r2), some (.inl (x5 + (1 : Int32))), none, none]) ⟨rfl, ⟨rfl, ⟨rfl, ⟨rfl, ⟨rfl, trivial⟩⟩⟩⟩⟩ (kk1 r2 (x5 + (1 : Int32)))
set_option maxRecDepth 20000 in
theorem L_X12_duty_72 {l : Launch} {G : Gv} {lim : Nat × Nat} (M : Mem) (x0 : Nat) (x2 : Int32) (x3 : Int32) (x4 : Int32) (x5 : Int32) (K : ((Int32)) → Option (Option Value × Mem)) (kk2_0 : ∀ r : Int32, SimR l G Y_X12_duty lim (K r) 154 [none, none, none, none, some (.inl r), none, none, none] [] M) : Sim l G Y_X12_duty lim (f_X12_duty_L72 M x0 x2 x3 x4 x5) K 72 [some (.inr (.inr x0)), none, some (.inl x2), some (.inl x3), some (.inl x4), some (.inl x5), none, none] [] M :=
  s_iter (f := fun s : Int32 × Int32 => f_X12_duty_B72 M x0 x2 x3 s.1 s.2) (hd := 72) (cl := fun s => [some (.inr (.inr x0)), none, some (.inl x2), some (.inl x3), some (.inl s.1), some (.inl s.2), none, none]) (cm := fun s => M) (xp := fun _ => 154) (xl := fun r => [none, none, none, none, some (.inl r), none, none, none]) (xm := fun r => M) (fun s K h1 h2 => B_X12_duty_72 M x0 x2 x3 s.1 s.2 K (fun a4 a5 => h1 (a4, a5)) (fun a4 => h2 a4)) 1048576 (x4, x5) K kk2_0
def f_X12_duty_J42 (M : Mem) (x0 : Nat) (x2 : Int32) (x3 : Int32)  : Option (Int32 × Mem) :=
  (ob M 12 x0).bind fun _ => (f_X12_serves M x0 x2).bind fun z1 =>
  (if x3 = (-1 : Int32) then
    (gR z1 12 x0 42).bind fun v3 =>
    (aI z1 0 v3 (((9 : Int32) * x2) + (8 : Int32))).bind fun v4 =>
    some (v4, z1)
  else
    (f_X12_duty_L72 z1 x0 x2 x3 (8 : Int32) (0 : Int32)).bind fun r5 =>
    some (r5, z1))
set_option maxRecDepth 20000 in
theorem J_X12_duty_42 {l : Launch} {G : Gv} {lim : Nat × Nat} (M : Mem) (x0 : Nat) (x2 : Int32) (x3 : Int32)   : Sim l G Y_X12_duty lim (f_X12_duty_J42 M x0 x2 x3) (fun z => some (some (.int z.1), z.2)) 42 [some (.inr (.inr x0)), none, some (.inl x2), some (.inl x3), none, none, none, none] [] M := by
  unfold f_X12_duty_J42
  refine s_run (b := [(.aload_n 0, 1), (.iload_n 2, 1)]) 44 [some (.inr (.inr x0)), none, some (.inl x2), some (.inl x3), none, none, none, none] [.inl x2, .inr (.inr x0)] (by decide +kernel) rfl ?_
  refine s_cV (Z := Y_X12_serves) (c := 12) (vs := [.inl x2]) (st := []) (rO := fun _ => none) (mO := fun z => z) zk_X12_serves zi_X12_serves q1886 rfl ⟨by decide, by decide⟩ ⟨rfl, rfl⟩ rfl rfl (Nat.le_of_ble_eq_true rfl) (by decide +kernel) (fun z hz => c_X12_serves hz) (fun z1 => ?_)
  change Sim l G Y_X12_duty lim _ _ 47 [some (.inr (.inr x0)), none, some (.inl x2), some (.inl x3), none, none, none, none] [] z1
  refine s_run (b := [(.iload_n 3, 1), (.iconst (-1), 1)]) 49 [some (.inr (.inr x0)), none, some (.inl x2), some (.inl x3), none, none, none, none] [.inl (-1 : Int32), .inl x3] (by decide +kernel) rfl ?_
  refine s_ic_ne (tgt := 65) (off := 16) (by decide +kernel) (by decide) (fun h2 => ?_) (fun h2 => ?_)
  · skip
    refine s_run (b := [(.aload_n 0, 1)]) 53 [some (.inr (.inr x0)), none, some (.inl x2), some (.inl x3), none, none, none, none] [.inr (.inr x0)] (by decide +kernel) rfl ?_
    refine s_gR fl_12_51 rfl (by decide +kernel) (fun v3 => ?_)
    refine s_run (b := [(.bipush 9, 2), (.iload_n 2, 1), (.imul, 1), (.bipush 8, 2), (.iadd, 1)]) 63 [some (.inr (.inr x0)), none, some (.inl x2), some (.inl x3), none, none, none, none] [.inl (((9 : Int32) * x2) + (8 : Int32)), .inr (.inr v3)] (by decide +kernel) rfl ?_
    refine s_ia (by decide +kernel) (fun v4 => ?_)
    exact s_iret (by decide +kernel) rfl
  · skip
    refine s_run (b := [(.bipush 8, 2), (.istore 4, 2), (.iconst 0, 1), (.istore 5, 2)]) 72 [some (.inr (.inr x0)), none, some (.inl x2), some (.inl x3), some (.inl (8 : Int32)), some (.inl (0 : Int32)), none, none] [] (by decide +kernel) rfl ?_
    refine s_lsub (ls' := [some (.inr (.inr x0)), none, some (.inl x2), some (.inl x3), some (.inl (8 : Int32)), some (.inl (0 : Int32)), none, none]) ⟨rfl, ⟨rfl, ⟨rfl, ⟨rfl, ⟨rfl, trivial⟩⟩⟩⟩⟩ ?_
    refine sim_bind (L_X12_duty_72 z1 x0 x2 x3 (8 : Int32) (0 : Int32) _ (fun r5 => ?_))
    change Sim l G Y_X12_duty lim _ _ 154 [none, none, none, none, some (.inl r5), none, none, none] [] z1
    refine s_run (b := [(.iload 4, 2)]) 156 [none, none, none, none, some (.inl r5), none, none, none] [.inl r5] (by decide +kernel) rfl ?_
    exact s_iret (by decide +kernel) rfl
def f_X12_duty (M : Mem) (x0 : Nat) (x1 : Int32) (x2 : Int32) (x3 : Int32) : Option (Int32 × Mem) :=
  (ob M 12 x0).bind fun _ => (f_X12_isOffice M x0 x1).bind fun z1 =>
  (if z1.1 = 0 then
    some ((-1 : Int32), z1.2)
  else
    (f_X12_isIn z1.2 x2 (0 : Int32) (20 : Int32)).bind fun v3 =>
    (if v3 = 0 then
      some ((-1 : Int32), z1.2)
    else
      (f_X12_isIn z1.2 x3 (-1 : Int32) (x2 - (1 : Int32))).bind fun v5 =>
      (if v5 = 0 then
        some ((-1 : Int32), z1.2)
      else
        (gI z1.2 12 x0 12).bind fun v7 =>
        (if v7 = 0 then
          (if x2 ≤ 0 then
            f_X12_duty_J42 z1.2 x0 x2 x3 
          else
            some ((-1 : Int32), z1.2))
        else
          f_X12_duty_J42 z1.2 x0 x2 x3 ))))
set_option maxRecDepth 20000 in
theorem S_X12_duty {l : Launch} {G : Gv} {lim : Nat × Nat} (M : Mem) (x0 : Nat) (x1 : Int32) (x2 : Int32) (x3 : Int32) : Sim l G Y_X12_duty lim (f_X12_duty M x0 x1 x2 x3) (fun z => some (some (.int z.1), z.2)) 0 [some (.inr (.inr x0)), some (.inl x1), some (.inl x2), some (.inl x3), none, none, none, none] [] M := by
  unfold f_X12_duty
  refine s_run (b := [(.aload_n 0, 1), (.iload_n 1, 1)]) 2 [some (.inr (.inr x0)), some (.inl x1), some (.inl x2), some (.inl x3), none, none, none, none] [.inl x1, .inr (.inr x0)] (by decide +kernel) rfl ?_
  refine s_cV (Z := Y_X12_isOffice) (c := 12) (vs := [.inl x1]) (st := []) (rO := fun z => some (.inl z.1)) (mO := fun z => z.2) zk_X12_isOffice zi_X12_isOffice q1550 rfl ⟨by decide, by decide⟩ ⟨rfl, rfl⟩ rfl rfl (Nat.le_of_ble_eq_true rfl) (by decide +kernel) (fun z hz => c_X12_isOffice hz) (fun z1 => ?_)
  change Sim l G Y_X12_duty lim _ _ 5 [some (.inr (.inr x0)), some (.inl x1), some (.inl x2), some (.inl x3), none, none, none, none] [.inl z1.1] z1.2
  refine s_if_eq (tgt := 40) (off := 35) (by decide +kernel) (by decide) (fun h2 => ?_) (fun h2 => ?_)
  · skip
    refine s_run (b := [(.iconst (-1), 1)]) 41 [some (.inr (.inr x0)), some (.inl x1), some (.inl x2), some (.inl x3), none, none, none, none] [.inl (-1 : Int32)] (by decide +kernel) rfl ?_
    exact s_iret (by decide +kernel) rfl
  · skip
    refine s_run (b := [(.iload_n 2, 1), (.iconst 0, 1), (.bipush 20, 2)]) 12 [some (.inr (.inr x0)), some (.inl x1), some (.inl x2), some (.inl x3), none, none, none, none] [.inl (20 : Int32), .inl (0 : Int32), .inl x2] (by decide +kernel) rfl ?_
    refine s_cS (Z := Y_X12_isIn) (vs := [.inl x2, .inl (0 : Int32), .inl (20 : Int32)]) (st := []) (rO := fun z => some (.inl z)) (mO := fun _ => z1.2) zk_X12_isIn q1464 q1463 ⟨by decide, by decide⟩ ⟨rfl, rfl⟩ rfl rfl (Nat.le_of_ble_eq_true rfl) (by decide +kernel) (fun z hz => c_X12_isIn hz) (fun v3 => ?_)
    change Sim l G Y_X12_duty lim _ _ 15 [some (.inr (.inr x0)), some (.inl x1), some (.inl x2), some (.inl x3), none, none, none, none] [.inl v3] z1.2
    refine s_if_eq (tgt := 40) (off := 25) (by decide +kernel) (by decide) (fun h4 => ?_) (fun h4 => ?_)
    · skip
      refine s_run (b := [(.iconst (-1), 1)]) 41 [some (.inr (.inr x0)), some (.inl x1), some (.inl x2), some (.inl x3), none, none, none, none] [.inl (-1 : Int32)] (by decide +kernel) rfl ?_
      exact s_iret (by decide +kernel) rfl
    · skip
      refine s_run (b := [(.iload_n 3, 1), (.iconst (-1), 1), (.iload_n 2, 1), (.iconst 1, 1), (.isub, 1)]) 23 [some (.inr (.inr x0)), some (.inl x1), some (.inl x2), some (.inl x3), none, none, none, none] [.inl (x2 - (1 : Int32)), .inl (-1 : Int32), .inl x3] (by decide +kernel) rfl ?_
      refine s_cS (Z := Y_X12_isIn) (vs := [.inl x3, .inl (-1 : Int32), .inl (x2 - (1 : Int32))]) (st := []) (rO := fun z => some (.inl z)) (mO := fun _ => z1.2) zk_X12_isIn q1464 q1463 ⟨by decide, by decide⟩ ⟨rfl, rfl⟩ rfl rfl (Nat.le_of_ble_eq_true rfl) (by decide +kernel) (fun z hz => c_X12_isIn hz) (fun v5 => ?_)
      change Sim l G Y_X12_duty lim _ _ 26 [some (.inr (.inr x0)), some (.inl x1), some (.inl x2), some (.inl x3), none, none, none, none] [.inl v5] z1.2
      refine s_if_eq (tgt := 40) (off := 14) (by decide +kernel) (by decide) (fun h6 => ?_) (fun h6 => ?_)
      · skip
        refine s_run (b := [(.iconst (-1), 1)]) 41 [some (.inr (.inr x0)), some (.inl x1), some (.inl x2), some (.inl x3), none, none, none, none] [.inl (-1 : Int32)] (by decide +kernel) rfl ?_
        exact s_iret (by decide +kernel) rfl
      · skip
        refine s_run (b := [(.aload_n 0, 1)]) 30 [some (.inr (.inr x0)), some (.inl x1), some (.inl x2), some (.inl x3), none, none, none, none] [.inr (.inr x0)] (by decide +kernel) rfl ?_
        refine s_gI fl_12_162 rfl (by decide +kernel) (fun v7 => ?_)
        refine s_if_ne (tgt := 42) (off := 9) (by decide +kernel) (by decide) (fun h8 => ?_) (fun h8 => ?_)
        · skip
          refine s_run (b := [(.iload_n 2, 1)]) 37 [some (.inr (.inr x0)), some (.inl x1), some (.inl x2), some (.inl x3), none, none, none, none] [.inl x2] (by decide +kernel) rfl ?_
          refine s_if_le (tgt := 42) (off := 5) (by decide +kernel) (by decide) (fun h9 => ?_) (fun h9 => ?_)
          · skip
            exact s_lsub (ls' := [some (.inr (.inr x0)), none, some (.inl x2), some (.inl x3), none, none, none, none]) ⟨rfl, ⟨rfl, ⟨rfl, trivial⟩⟩⟩ (J_X12_duty_42 z1.2 x0 x2 x3 )
          · skip
            refine s_run (b := [(.iconst (-1), 1)]) 41 [some (.inr (.inr x0)), some (.inl x1), some (.inl x2), some (.inl x3), none, none, none, none] [.inl (-1 : Int32)] (by decide +kernel) rfl ?_
            exact s_iret (by decide +kernel) rfl
        · skip
          exact s_lsub (ls' := [some (.inr (.inr x0)), none, some (.inl x2), some (.inl x3), none, none, none, none]) ⟨rfl, ⟨rfl, ⟨rfl, trivial⟩⟩⟩ (J_X12_duty_42 z1.2 x0 x2 x3 )
set_option maxRecDepth 20000 in
theorem c_X12_duty {l : Launch} {G : Gv} {M : Mem} {x0 : Nat} {x1 : Int32} {x2 : Int32} {x3 : Int32} {z : Int32 × Mem} (h : f_X12_duty M x0 x1 x2 x3 = some z) : MetS l G Y_X12_duty [.inr (.inr x0), .inl x1, .inl x2, .inl x3] M (some (.int z.1)) z.2 :=
  met_of (ls0 := [some (.inr (.inr x0)), some (.inl x1), some (.inl x2), some (.inl x3), none, none, none, none]) (by decide) rfl (lv_in (m := 4) rfl) (sl_le (Nat.le_of_ble_eq_true rfl)) (by rw [h]; rfl) (Or.inl ⟨rfl, rfl⟩) (S_X12_duty M x0 x1 x2 x3)
def f_X12_ears_B37 (M : Mem) (x0 : Nat) (x2 : Int32) (x3 : Int32) (x4 : Int32) (x5 : Int32) : Option ((Int32 × Int32) ⊕ ((Int32))) :=
  (gI M 12 x0 12).bind fun v1 =>
  (if v1 ≤ x5 then
    some (.inr x4)
  else
    (if x5 = x3 then
      some (.inl (x4, (x5 + (1 : Int32))))
    else
      (ob M 12 x0).bind fun _ => (f_X12_off M x0 x5 x3).bind fun v4 =>
      (if x4 ≤ v4 then
        some (.inl (x4, (x5 + (1 : Int32))))
      else
        (ob M 12 x0).bind fun _ => (f_X12_off M x0 x5 x3).bind fun v6 =>
        some (.inl (v6, (x5 + (1 : Int32)))))))
def f_X12_ears_L37 (M : Mem) (x0 : Nat) (x2 : Int32) (x3 : Int32) (x4 : Int32) (x5 : Int32) : Option ((Int32)) := iter (fun s : Int32 × Int32 => f_X12_ears_B37 M x0 x2 x3 s.1 s.2) 1048576 (x4, x5)
set_option maxRecDepth 20000 in
theorem B_X12_ears_37 {l : Launch} {G : Gv} {lim : Nat × Nat} (M : Mem) (x0 : Nat) (x2 : Int32) (x3 : Int32) (x4 : Int32) (x5 : Int32) (K : (Int32 × Int32) ⊕ ((Int32)) → Option (Option Value × Mem)) (kk1 : ∀ (s4 : Int32) (s5 : Int32), SimR l G Y_X12_ears lim (K (.inl (s4, s5))) 37 [some (.inr (.inr x0)), none, some (.inl x2), some (.inl x3), some (.inl s4), some (.inl s5)] [] M) (kk2_0 : ∀ (s4 : Int32), SimR l G Y_X12_ears lim (K (.inr s4)) 84 [some (.inr (.inr x0)), none, some (.inl x2), some (.inl x3), some (.inl s4), none] [] M) : Sim l G Y_X12_ears lim (f_X12_ears_B37 M x0 x2 x3 x4 x5) K 37 [some (.inr (.inr x0)), none, some (.inl x2), some (.inl x3), some (.inl x4), some (.inl x5)] [] M := by
  unfold f_X12_ears_B37
  refine s_run (b := [(.iload 5, 2), (.aload_n 0, 1)]) 40 [some (.inr (.inr x0)), none, some (.inl x2), some (.inl x3), some (.inl x4), some (.inl x5)] [.inr (.inr x0), .inl x5] (by decide +kernel) rfl ?_
  refine s_gI fl_12_162 rfl (by decide +kernel) (fun v1 => ?_)
  refine s_ic_ge (tgt := 84) (off := 41) (by decide +kernel) (by decide) (fun h2 => ?_) (fun h2 => ?_)
  · skip
    exact s_lsub (ls' := [some (.inr (.inr x0)), none, some (.inl x2), some (.inl x3), some (.inl x4), none]) ⟨rfl, ⟨rfl, ⟨rfl, ⟨rfl, trivial⟩⟩⟩⟩ (kk2_0 x4)
  · skip
    refine s_run (b := [(.iload 5, 2), (.iload_n 3, 1)]) 49 [some (.inr (.inr x0)), none, some (.inl x2), some (.inl x3), some (.inl x4), some (.inl x5)] [.inl x3, .inl x5] (by decide +kernel) rfl ?_
    refine s_ic_eq (tgt := 74) (off := 25) (by decide +kernel) (by decide) (fun h3 => ?_) (fun h3 => ?_)
    · skip
      refine s_run (b := [(.iload 4, 2), (.istore 4, 2), (.iinc 5 1, 3), (.goto (-44), 3)]) 37 [some (.inr (.inr x0)), none, some (.inl x2), some (.inl x3), some (.inl x4), some (.inl (x5 + (1 : Int32)))] [] (by decide +kernel) rfl ?_
      exact s_lsub (ls' := [some (.inr (.inr x0)), none, some (.inl x2), some (.inl x3), some (.inl x4), some (.inl (x5 + (1 : Int32)))]) ⟨rfl, ⟨rfl, ⟨rfl, ⟨rfl, ⟨rfl, trivial⟩⟩⟩⟩⟩ (kk1 x4 (x5 + (1 : Int32)))
    · skip
      refine s_run (b := [(.aload_n 0, 1), (.iload 5, 2), (.iload_n 3, 1)]) 56 [some (.inr (.inr x0)), none, some (.inl x2), some (.inl x3), some (.inl x4), some (.inl x5)] [.inl x3, .inl x5, .inr (.inr x0)] (by decide +kernel) rfl ?_
      refine s_cV (Z := Y_X12_off) (c := 12) (vs := [.inl x5, .inl x3]) (st := []) (rO := fun z => some (.inl z)) (mO := fun _ => M) zk_X12_off zi_X12_off q1613 rfl ⟨by decide, by decide⟩ ⟨rfl, rfl⟩ rfl rfl (Nat.le_of_ble_eq_true rfl) (by decide +kernel) (fun z hz => c_X12_off hz) (fun v4 => ?_)
      change Sim l G Y_X12_ears lim _ _ 59 [some (.inr (.inr x0)), none, some (.inl x2), some (.inl x3), some (.inl x4), some (.inl x5)] [.inl v4] M
      refine s_run (b := [(.iload 4, 2)]) 61 [some (.inr (.inr x0)), none, some (.inl x2), some (.inl x3), some (.inl x4), some (.inl x5)] [.inl x4, .inl v4] (by decide +kernel) rfl ?_
      refine s_ic_ge (tgt := 74) (off := 13) (by decide +kernel) (by decide) (fun h5 => ?_) (fun h5 => ?_)
      · skip
        refine s_run (b := [(.iload 4, 2), (.istore 4, 2), (.iinc 5 1, 3), (.goto (-44), 3)]) 37 [some (.inr (.inr x0)), none, some (.inl x2), some (.inl x3), some (.inl x4), some (.inl (x5 + (1 : Int32)))] [] (by decide +kernel) rfl ?_
        exact s_lsub (ls' := [some (.inr (.inr x0)), none, some (.inl x2), some (.inl x3), some (.inl x4), some (.inl (x5 + (1 : Int32)))]) ⟨rfl, ⟨rfl, ⟨rfl, ⟨rfl, ⟨rfl, trivial⟩⟩⟩⟩⟩ (kk1 x4 (x5 + (1 : Int32)))
      · skip
        refine s_run (b := [(.aload_n 0, 1), (.iload 5, 2), (.iload_n 3, 1)]) 68 [some (.inr (.inr x0)), none, some (.inl x2), some (.inl x3), some (.inl x4), some (.inl x5)] [.inl x3, .inl x5, .inr (.inr x0)] (by decide +kernel) rfl ?_
        refine s_cV (Z := Y_X12_off) (c := 12) (vs := [.inl x5, .inl x3]) (st := []) (rO := fun z => some (.inl z)) (mO := fun _ => M) zk_X12_off zi_X12_off q1613 rfl ⟨by decide, by decide⟩ ⟨rfl, rfl⟩ rfl rfl (Nat.le_of_ble_eq_true rfl) (by decide +kernel) (fun z hz => c_X12_off hz) (fun v6 => ?_)
        change Sim l G Y_X12_ears lim _ _ 71 [some (.inr (.inr x0)), none, some (.inl x2), some (.inl x3), some (.inl x4), some (.inl x5)] [.inl v6] M
        refine s_run (b := [(.goto 5, 3), (.istore 4, 2), (.iinc 5 1, 3), (.goto (-44), 3)]) 37 [some (.inr (.inr x0)), none, some (.inl x2), some (.inl x3), some (.inl v6), some (.inl (x5 + (1 : Int32)))] [] (by decide +kernel) rfl ?_
        exact s_lsub (ls' := [some (.inr (.inr x0)), none, some (.inl x2), some (.inl x3), some (.inl v6), some (.inl (x5 + (1 : Int32)))]) ⟨rfl, ⟨rfl, ⟨rfl, ⟨rfl, ⟨rfl, trivial⟩⟩⟩⟩⟩ (kk1 v6 (x5 + (1 : Int32)))
set_option maxRecDepth 20000 in
theorem L_X12_ears_37 {l : Launch} {G : Gv} {lim : Nat × Nat} (M : Mem) (x0 : Nat) (x2 : Int32) (x3 : Int32) (x4 : Int32) (x5 : Int32) (K : ((Int32)) → Option (Option Value × Mem)) (kk2_0 : ∀ r : Int32, SimR l G Y_X12_ears lim (K r) 84 [some (.inr (.inr x0)), none, some (.inl x2), some (.inl x3), some (.inl r), none] [] M) : Sim l G Y_X12_ears lim (f_X12_ears_L37 M x0 x2 x3 x4 x5) K 37 [some (.inr (.inr x0)), none, some (.inl x2), some (.inl x3), some (.inl x4), some (.inl x5)] [] M :=
  s_iter (f := fun s : Int32 × Int32 => f_X12_ears_B37 M x0 x2 x3 s.1 s.2) (hd := 37) (cl := fun s => [some (.inr (.inr x0)), none, some (.inl x2), some (.inl x3), some (.inl s.1), some (.inl s.2)]) (cm := fun s => M) (xp := fun _ => 84) (xl := fun r => [some (.inr (.inr x0)), none, some (.inl x2), some (.inl x3), some (.inl r), none]) (xm := fun r => M) (fun s K h1 h2 => B_X12_ears_37 M x0 x2 x3 s.1 s.2 K (fun a4 a5 => h1 (a4, a5)) (fun a4 => h2 a4)) 1048576 (x4, x5) K kk2_0
def f_X12_ears_B22 (M : Mem) (x0 : Nat) (x2 : Int32) (x3 : Int32) : Option ((Int32 × Int32) ⊕ ((Int32))) :=
  (gI M 12 x0 12).bind fun v1 =>
  (if v1 ≤ x3 then
    some (.inr x2)
  else
    (f_X12_ears_L37 M x0 x2 x3 (99 : Int32) (0 : Int32)).bind fun r3 =>
    (if r3 ≤ x2 then
      some (.inl (x2, (x3 + (1 : Int32))))
    else
      some (.inl (r3, (x3 + (1 : Int32))))))
def f_X12_ears_L22 (M : Mem) (x0 : Nat) (x2 : Int32) (x3 : Int32) : Option ((Int32)) := iter (fun s : Int32 × Int32 => f_X12_ears_B22 M x0 s.1 s.2) 1048576 (x2, x3)
set_option maxRecDepth 20000 in
theorem B_X12_ears_22 {l : Launch} {G : Gv} {lim : Nat × Nat} (M : Mem) (x0 : Nat) (x2 : Int32) (x3 : Int32) (K : (Int32 × Int32) ⊕ ((Int32)) → Option (Option Value × Mem)) (kk1 : ∀ (s2 : Int32) (s3 : Int32), SimR l G Y_X12_ears lim (K (.inl (s2, s3))) 22 [some (.inr (.inr x0)), none, some (.inl s2), some (.inl s3), none, none] [] M) (kk2_0 : ∀ (s2 : Int32), SimR l G Y_X12_ears lim (K (.inr s2)) 103 [none, none, some (.inl s2), none, none, none] [] M) : Sim l G Y_X12_ears lim (f_X12_ears_B22 M x0 x2 x3) K 22 [some (.inr (.inr x0)), none, some (.inl x2), some (.inl x3), none, none] [] M := by
  unfold f_X12_ears_B22
  refine s_run (b := [(.iload_n 3, 1), (.aload_n 0, 1)]) 24 [some (.inr (.inr x0)), none, some (.inl x2), some (.inl x3), none, none] [.inr (.inr x0), .inl x3] (by decide +kernel) rfl ?_
  refine s_gI fl_12_162 rfl (by decide +kernel) (fun v1 => ?_)
  refine s_ic_ge (tgt := 103) (off := 76) (by decide +kernel) (by decide) (fun h2 => ?_) (fun h2 => ?_)
  · skip
    exact s_lsub (ls' := [none, none, some (.inl x2), none, none, none]) ⟨rfl, trivial⟩ (kk2_0 x2)
  · skip
    refine s_run (b := [(.bipush 99, 2), (.istore 4, 2), (.iconst 0, 1), (.istore 5, 2)]) 37 [some (.inr (.inr x0)), none, some (.inl x2), some (.inl x3), some (.inl (99 : Int32)), some (.inl (0 : Int32))] [] (by decide +kernel) rfl ?_
    refine s_lsub (ls' := [some (.inr (.inr x0)), none, some (.inl x2), some (.inl x3), some (.inl (99 : Int32)), some (.inl (0 : Int32))]) ⟨rfl, ⟨rfl, ⟨rfl, ⟨rfl, ⟨rfl, trivial⟩⟩⟩⟩⟩ ?_
    refine sim_bind (L_X12_ears_37 M x0 x2 x3 (99 : Int32) (0 : Int32) _ (fun r3 => ?_))
    change Sim l G Y_X12_ears lim _ _ 84 [some (.inr (.inr x0)), none, some (.inl x2), some (.inl x3), some (.inl r3), none] [] M
    refine s_run (b := [(.iload 4, 2), (.iload_n 2, 1)]) 87 [some (.inr (.inr x0)), none, some (.inl x2), some (.inl x3), some (.inl r3), none] [.inl x2, .inl r3] (by decide +kernel) rfl ?_
    refine s_ic_le (tgt := 95) (off := 8) (by decide +kernel) (by decide) (fun h4 => ?_) (fun h4 => ?_)
    · skip
      refine s_run (b := [(.iload_n 2, 1), (.istore_n 2, 1), (.iinc 3 1, 3), (.goto (-78), 3)]) 22 [some (.inr (.inr x0)), none, some (.inl x2), some (.inl (x3 + (1 : Int32))), some (.inl r3), none] [] (by decide +kernel) rfl ?_
      exact s_lsub (ls' := [some (.inr (.inr x0)), none, some (.inl x2), some (.inl (x3 + (1 : Int32))), none, none]) ⟨rfl, ⟨rfl, ⟨rfl, trivial⟩⟩⟩ (kk1 x2 (x3 + (1 : Int32)))
    · skip
      refine s_run (b := [(.iload 4, 2), (.goto 4, 3), (.istore_n 2, 1), (.iinc 3 1, 3), (.goto (-78), 3)]) 22 [some (.inr (.inr x0)), none, some (.inl r3), some (.inl (x3 + (1 : Int32))), some (.inl r3), none] [] (by decide +kernel) rfl ?_
      exact s_lsub (ls' := [some (.inr (.inr x0)), none, some (.inl r3), some (.inl (x3 + (1 : Int32))), none, none]) ⟨rfl, ⟨rfl, ⟨rfl, trivial⟩⟩⟩ (kk1 r3 (x3 + (1 : Int32)))
set_option maxRecDepth 20000 in
theorem L_X12_ears_22 {l : Launch} {G : Gv} {lim : Nat × Nat} (M : Mem) (x0 : Nat) (x2 : Int32) (x3 : Int32) (K : ((Int32)) → Option (Option Value × Mem)) (kk2_0 : ∀ r : Int32, SimR l G Y_X12_ears lim (K r) 103 [none, none, some (.inl r), none, none, none] [] M) : Sim l G Y_X12_ears lim (f_X12_ears_L22 M x0 x2 x3) K 22 [some (.inr (.inr x0)), none, some (.inl x2), some (.inl x3), none, none] [] M :=
  s_iter (f := fun s : Int32 × Int32 => f_X12_ears_B22 M x0 s.1 s.2) (hd := 22) (cl := fun s => [some (.inr (.inr x0)), none, some (.inl s.1), some (.inl s.2), none, none]) (cm := fun s => M) (xp := fun _ => 103) (xl := fun r => [none, none, some (.inl r), none, none, none]) (xm := fun r => M) (fun s K h1 h2 => B_X12_ears_22 M x0 s.1 s.2 K (fun a2 a3 => h1 (a2, a3)) (fun a2 => h2 a2)) 1048576 (x2, x3) K kk2_0
def f_X12_ears (M : Mem) (x0 : Nat) (x1 : Int32) : Option (Int32 × Mem) :=
  (ob M 12 x0).bind fun _ => (f_X12_isOffice M x0 x1).bind fun z1 =>
  (if z1.1 = 0 then
    some ((-1 : Int32), z1.2)
  else
    (gI z1.2 12 x0 12).bind fun v3 =>
    (if v3 = (1 : Int32) then
      some ((-1 : Int32), z1.2)
    else
      (f_X12_ears_L22 z1.2 x0 (0 : Int32) (0 : Int32)).bind fun r5 =>
      some (r5, z1.2)))
set_option maxRecDepth 20000 in
theorem S_X12_ears {l : Launch} {G : Gv} {lim : Nat × Nat} (M : Mem) (x0 : Nat) (x1 : Int32) : Sim l G Y_X12_ears lim (f_X12_ears M x0 x1) (fun z => some (some (.int z.1), z.2)) 0 [some (.inr (.inr x0)), some (.inl x1), none, none, none, none] [] M := by
  unfold f_X12_ears
  refine s_run (b := [(.aload_n 0, 1), (.iload_n 1, 1)]) 2 [some (.inr (.inr x0)), some (.inl x1), none, none, none, none] [.inl x1, .inr (.inr x0)] (by decide +kernel) rfl ?_
  refine s_cV (Z := Y_X12_isOffice) (c := 12) (vs := [.inl x1]) (st := []) (rO := fun z => some (.inl z.1)) (mO := fun z => z.2) zk_X12_isOffice zi_X12_isOffice q1550 rfl ⟨by decide, by decide⟩ ⟨rfl, rfl⟩ rfl rfl (Nat.le_of_ble_eq_true rfl) (by decide +kernel) (fun z hz => c_X12_isOffice hz) (fun z1 => ?_)
  change Sim l G Y_X12_ears lim _ _ 5 [some (.inr (.inr x0)), some (.inl x1), none, none, none, none] [.inl z1.1] z1.2
  refine s_if_eq (tgt := 16) (off := 11) (by decide +kernel) (by decide) (fun h2 => ?_) (fun h2 => ?_)
  · skip
    refine s_run (b := [(.iconst (-1), 1)]) 17 [some (.inr (.inr x0)), some (.inl x1), none, none, none, none] [.inl (-1 : Int32)] (by decide +kernel) rfl ?_
    exact s_iret (by decide +kernel) rfl
  · skip
    refine s_run (b := [(.aload_n 0, 1)]) 9 [some (.inr (.inr x0)), some (.inl x1), none, none, none, none] [.inr (.inr x0)] (by decide +kernel) rfl ?_
    refine s_gI fl_12_162 rfl (by decide +kernel) (fun v3 => ?_)
    refine s_run (b := [(.iconst 1, 1)]) 13 [some (.inr (.inr x0)), some (.inl x1), none, none, none, none] [.inl (1 : Int32), .inl v3] (by decide +kernel) rfl ?_
    refine s_ic_ne (tgt := 18) (off := 5) (by decide +kernel) (by decide) (fun h4 => ?_) (fun h4 => ?_)
    · skip
      refine s_run (b := [(.iconst (-1), 1)]) 17 [some (.inr (.inr x0)), some (.inl x1), none, none, none, none] [.inl (-1 : Int32)] (by decide +kernel) rfl ?_
      exact s_iret (by decide +kernel) rfl
    · skip
      refine s_run (b := [(.iconst 0, 1), (.istore_n 2, 1), (.iconst 0, 1), (.istore_n 3, 1)]) 22 [some (.inr (.inr x0)), some (.inl x1), some (.inl (0 : Int32)), some (.inl (0 : Int32)), none, none] [] (by decide +kernel) rfl ?_
      refine s_lsub (ls' := [some (.inr (.inr x0)), none, some (.inl (0 : Int32)), some (.inl (0 : Int32)), none, none]) ⟨rfl, ⟨rfl, ⟨rfl, trivial⟩⟩⟩ ?_
      refine sim_bind (L_X12_ears_22 z1.2 x0 (0 : Int32) (0 : Int32) _ (fun r5 => ?_))
      change Sim l G Y_X12_ears lim _ _ 103 [none, none, some (.inl r5), none, none, none] [] z1.2
      refine s_run (b := [(.iload_n 2, 1)]) 104 [none, none, some (.inl r5), none, none, none] [.inl r5] (by decide +kernel) rfl ?_
      exact s_iret (by decide +kernel) rfl
set_option maxRecDepth 20000 in
theorem c_X12_ears {l : Launch} {G : Gv} {M : Mem} {x0 : Nat} {x1 : Int32} {z : Int32 × Mem} (h : f_X12_ears M x0 x1 = some z) : MetS l G Y_X12_ears [.inr (.inr x0), .inl x1] M (some (.int z.1)) z.2 :=
  met_of (ls0 := [some (.inr (.inr x0)), some (.inl x1), none, none, none, none]) (by decide) rfl (lv_in (m := 4) rfl) (sl_le (Nat.le_of_ble_eq_true rfl)) (by rw [h]; rfl) (Or.inl ⟨rfl, rfl⟩) (S_X12_ears M x0 x1)
def f_X12_weightOf_B5 (M : Mem) (x0 : Nat) (x1 : Int32) (x2 : Int64) (x4 : Int32) : Option ((Int64 × Int32) ⊕ ((Int64))) :=
  (gI M 12 x0 12).bind fun v1 =>
  (if v1 ≤ x4 then
    some (.inr x2)
  else
    (f_X12_holds M x1 x4).bind fun v3 =>
    (if v3 = 0 then
      (ob M 12 x0).bind fun _ => (f_X12_of M x0 x4 (4 : Int32)).bind fun v5 =>
      some (.inl ((x2 * (Int32.toInt64 ((10 : Int32) - v5))), (x4 + (1 : Int32))))
    else
      (ob M 12 x0).bind fun _ => (f_X12_of M x0 x4 (4 : Int32)).bind fun v6 =>
      some (.inl ((x2 * (Int32.toInt64 v6)), (x4 + (1 : Int32))))))
def f_X12_weightOf_L5 (M : Mem) (x0 : Nat) (x1 : Int32) (x2 : Int64) (x4 : Int32) : Option ((Int64)) := iter (fun s : Int64 × Int32 => f_X12_weightOf_B5 M x0 x1 s.1 s.2) 1048576 (x2, x4)
set_option maxRecDepth 20000 in
theorem B_X12_weightOf_5 {l : Launch} {G : Gv} {lim : Nat × Nat} (M : Mem) (x0 : Nat) (x1 : Int32) (x2 : Int64) (x4 : Int32) (K : (Int64 × Int32) ⊕ ((Int64)) → Option (Option Value × Mem)) (kk1 : ∀ (s2 : Int64) (s4 : Int32), SimR l G Y_X12_weightOf lim (K (.inl (s2, s4))) 5 [some (.inr (.inr x0)), some (.inl x1), some (.inr (.inl s2)), none, some (.inl s4)] [] M) (kk2_0 : ∀ (s2 : Int64), SimR l G Y_X12_weightOf lim (K (.inr s2)) 54 [none, none, some (.inr (.inl s2)), none, none] [] M) : Sim l G Y_X12_weightOf lim (f_X12_weightOf_B5 M x0 x1 x2 x4) K 5 [some (.inr (.inr x0)), some (.inl x1), some (.inr (.inl x2)), none, some (.inl x4)] [] M := by
  unfold f_X12_weightOf_B5
  refine s_run (b := [(.iload 4, 2), (.aload_n 0, 1)]) 8 [some (.inr (.inr x0)), some (.inl x1), some (.inr (.inl x2)), none, some (.inl x4)] [.inr (.inr x0), .inl x4] (by decide +kernel) rfl ?_
  refine s_gI fl_12_162 rfl (by decide +kernel) (fun v1 => ?_)
  refine s_ic_ge (tgt := 54) (off := 43) (by decide +kernel) (by decide) (fun h2 => ?_) (fun h2 => ?_)
  · skip
    exact s_lsub (ls' := [none, none, some (.inr (.inl x2)), none, none]) ⟨rfl, trivial⟩ (kk2_0 x2)
  · skip
    refine s_run (b := [(.lload_n 2, 1), (.iload_n 1, 1), (.iload 4, 2)]) 18 [some (.inr (.inr x0)), some (.inl x1), some (.inr (.inl x2)), none, some (.inl x4)] [.inl x4, .inl x1, .inr (.inl x2)] (by decide +kernel) rfl ?_
    refine s_cS (Z := Y_X12_holds) (vs := [.inl x1, .inl x4]) (st := [.inr (.inl x2)]) (rO := fun z => some (.inl z)) (mO := fun _ => M) zk_X12_holds q1599 q1598 ⟨by decide, by decide⟩ ⟨rfl, rfl⟩ rfl rfl (Nat.le_of_ble_eq_true rfl) (by decide +kernel) (fun z hz => c_X12_holds hz) (fun v3 => ?_)
    change Sim l G Y_X12_weightOf lim _ _ 21 [some (.inr (.inr x0)), some (.inl x1), some (.inr (.inl x2)), none, some (.inl x4)] [.inl v3, .inr (.inl x2)] M
    refine s_if_eq (tgt := 35) (off := 14) (by decide +kernel) (by decide) (fun h4 => ?_) (fun h4 => ?_)
    · skip
      refine s_run (b := [(.bipush 10, 2), (.aload_n 0, 1), (.iload 4, 2), (.iconst 4, 1)]) 41 [some (.inr (.inr x0)), some (.inl x1), some (.inr (.inl x2)), none, some (.inl x4)] [.inl (4 : Int32), .inl x4, .inr (.inr x0), .inl (10 : Int32), .inr (.inl x2)] (by decide +kernel) rfl ?_
      refine s_cV (Z := Y_X12_of) (c := 12) (vs := [.inl x4, .inl (4 : Int32)]) (st := [.inl (10 : Int32), .inr (.inl x2)]) (rO := fun z => some (.inl z)) (mO := fun _ => M) zk_X12_of zi_X12_of q1558 rfl ⟨by decide, by decide⟩ ⟨rfl, rfl⟩ rfl rfl (Nat.le_of_ble_eq_true rfl) (by decide +kernel) (fun z hz => c_X12_of hz) (fun v5 => ?_)
      change Sim l G Y_X12_weightOf lim _ _ 44 [some (.inr (.inr x0)), some (.inl x1), some (.inr (.inl x2)), none, some (.inl x4)] [.inl v5, .inl (10 : Int32), .inr (.inl x2)] M
      refine s_run (b := [(.isub, 1), (.i2l, 1), (.lmul, 1), (.lstore_n 2, 1), (.iinc 4 1, 3), (.goto (-46), 3)]) 5 [some (.inr (.inr x0)), some (.inl x1), some (.inr (.inl (x2 * (Int32.toInt64 ((10 : Int32) - v5))))), none, some (.inl (x4 + (1 : Int32)))] [] (by decide +kernel) rfl ?_
      exact s_lsub (ls' := [some (.inr (.inr x0)), some (.inl x1), some (.inr (.inl (x2 * (Int32.toInt64 ((10 : Int32) - v5))))), none, some (.inl (x4 + (1 : Int32)))]) ⟨rfl, ⟨rfl, ⟨rfl, ⟨rfl, trivial⟩⟩⟩⟩ (kk1 (x2 * (Int32.toInt64 ((10 : Int32) - v5))) (x4 + (1 : Int32)))
    · skip
      refine s_run (b := [(.aload_n 0, 1), (.iload 4, 2), (.iconst 4, 1)]) 28 [some (.inr (.inr x0)), some (.inl x1), some (.inr (.inl x2)), none, some (.inl x4)] [.inl (4 : Int32), .inl x4, .inr (.inr x0), .inr (.inl x2)] (by decide +kernel) rfl ?_
      refine s_cV (Z := Y_X12_of) (c := 12) (vs := [.inl x4, .inl (4 : Int32)]) (st := [.inr (.inl x2)]) (rO := fun z => some (.inl z)) (mO := fun _ => M) zk_X12_of zi_X12_of q1558 rfl ⟨by decide, by decide⟩ ⟨rfl, rfl⟩ rfl rfl (Nat.le_of_ble_eq_true rfl) (by decide +kernel) (fun z hz => c_X12_of hz) (fun v6 => ?_)
      change Sim l G Y_X12_weightOf lim _ _ 31 [some (.inr (.inr x0)), some (.inl x1), some (.inr (.inl x2)), none, some (.inl x4)] [.inl v6, .inr (.inl x2)] M
      refine s_run (b := [(.i2l, 1), (.goto 14, 3), (.lmul, 1), (.lstore_n 2, 1), (.iinc 4 1, 3), (.goto (-46), 3)]) 5 [some (.inr (.inr x0)), some (.inl x1), some (.inr (.inl (x2 * (Int32.toInt64 v6)))), none, some (.inl (x4 + (1 : Int32)))] [] (by decide +kernel) rfl ?_
      exact s_lsub (ls' := [some (.inr (.inr x0)), some (.inl x1), some (.inr (.inl (x2 * (Int32.toInt64 v6)))), none, some (.inl (x4 + (1 : Int32)))]) ⟨rfl, ⟨rfl, ⟨rfl, ⟨rfl, trivial⟩⟩⟩⟩ (kk1 (x2 * (Int32.toInt64 v6)) (x4 + (1 : Int32)))
set_option maxRecDepth 20000 in
theorem L_X12_weightOf_5 {l : Launch} {G : Gv} {lim : Nat × Nat} (M : Mem) (x0 : Nat) (x1 : Int32) (x2 : Int64) (x4 : Int32) (K : ((Int64)) → Option (Option Value × Mem)) (kk2_0 : ∀ r : Int64, SimR l G Y_X12_weightOf lim (K r) 54 [none, none, some (.inr (.inl r)), none, none] [] M) : Sim l G Y_X12_weightOf lim (f_X12_weightOf_L5 M x0 x1 x2 x4) K 5 [some (.inr (.inr x0)), some (.inl x1), some (.inr (.inl x2)), none, some (.inl x4)] [] M :=
  s_iter (f := fun s : Int64 × Int32 => f_X12_weightOf_B5 M x0 x1 s.1 s.2) (hd := 5) (cl := fun s => [some (.inr (.inr x0)), some (.inl x1), some (.inr (.inl s.1)), none, some (.inl s.2)]) (cm := fun s => M) (xp := fun _ => 54) (xl := fun r => [none, none, some (.inr (.inl r)), none, none]) (xm := fun r => M) (fun s K h1 h2 => B_X12_weightOf_5 M x0 x1 s.1 s.2 K (fun a2 a4 => h1 (a2, a4)) (fun a2 => h2 a2)) 1048576 (x2, x4) K kk2_0
def f_X12_weightOf (M : Mem) (x0 : Nat) (x1 : Int32) : Option (Int64) :=
  (f_X12_weightOf_L5 M x0 x1 (1 : Int64) (0 : Int32)).bind fun r1 =>
  some r1
set_option maxRecDepth 20000 in
theorem S_X12_weightOf {l : Launch} {G : Gv} {lim : Nat × Nat} (M : Mem) (x0 : Nat) (x1 : Int32) : Sim l G Y_X12_weightOf lim (f_X12_weightOf M x0 x1) (fun z => some (some (.long z), M)) 0 [some (.inr (.inr x0)), some (.inl x1), none, none, none] [] M := by
  unfold f_X12_weightOf
  refine s_run (b := [(.lconst 1, 1), (.lstore_n 2, 1), (.iconst 0, 1), (.istore 4, 2)]) 5 [some (.inr (.inr x0)), some (.inl x1), some (.inr (.inl (1 : Int64))), none, some (.inl (0 : Int32))] [] (by decide +kernel) rfl ?_
  refine s_lsub (ls' := [some (.inr (.inr x0)), some (.inl x1), some (.inr (.inl (1 : Int64))), none, some (.inl (0 : Int32))]) ⟨rfl, ⟨rfl, ⟨rfl, ⟨rfl, trivial⟩⟩⟩⟩ ?_
  refine sim_bind (L_X12_weightOf_5 M x0 x1 (1 : Int64) (0 : Int32) _ (fun r1 => ?_))
  change Sim l G Y_X12_weightOf lim _ _ 54 [none, none, some (.inr (.inl r1)), none, none] [] M
  refine s_run (b := [(.lload_n 2, 1)]) 55 [none, none, some (.inr (.inl r1)), none, none] [.inr (.inl r1)] (by decide +kernel) rfl ?_
  exact s_lret (by decide +kernel) rfl
set_option maxRecDepth 20000 in
theorem c_X12_weightOf {l : Launch} {G : Gv} {M : Mem} {x0 : Nat} {x1 : Int32} {z : Int64} (h : f_X12_weightOf M x0 x1 = some z) : MetS l G Y_X12_weightOf [.inr (.inr x0), .inl x1] M (some (.long z)) M :=
  met_of (ls0 := [some (.inr (.inr x0)), some (.inl x1), none, none, none]) (by decide) rfl (lv_in (m := 3) rfl) (sl_le (Nat.le_of_ble_eq_true rfl)) (by rw [h]; rfl) (Or.inl ⟨rfl, rfl⟩) (S_X12_weightOf M x0 x1)
def f_X12_empty_J20 (M : Mem)   : Option (Int64 × Mem) :=
  some ((-1 : Int64), M)
set_option maxRecDepth 20000 in
theorem J_X12_empty_20 {l : Launch} {G : Gv} {lim : Nat × Nat} (M : Mem)    : Sim l G Y_X12_empty lim (f_X12_empty_J20 M ) (fun z => some (some (.long z.1), z.2)) 20 [none, none, none, none, none, none, none] [] M := by
  unfold f_X12_empty_J20
  refine s_ldc2 q1660 (by decide +kernel) ?_
  change Sim l G Y_X12_empty lim _ _ 23 [none, none, none, none, none, none, none] [.inr (.inl (-1 : Int64))] M
  exact s_lret (by decide +kernel) rfl
def f_X12_empty_B30 (M : Mem) (x0 : Nat) (x2 : Int32) (x3 : Int32) (x4 : Int64) (x6 : Int32) : Option ((Int64 × Int32) ⊕ ((Int64))) :=
  (gI M 12 x0 12).bind fun v1 =>
  (if ((1 : Int32) <<< (v1 &&& 31)) ≤ x6 then
    some (.inr x4)
  else
    (f_X12_bitsOf M x6).bind fun v3 =>
    (if v3 = x2 then
      (ob M 12 x0).bind fun _ => (f_X12_weightOf M x0 x6).bind fun v5 =>
      some (.inl ((x4 + v5), (x6 + (1 : Int32))))
    else
      some (.inl ((x4 + (0 : Int64)), (x6 + (1 : Int32))))))
def f_X12_empty_L30 (M : Mem) (x0 : Nat) (x2 : Int32) (x3 : Int32) (x4 : Int64) (x6 : Int32) : Option ((Int64)) := iter (fun s : Int64 × Int32 => f_X12_empty_B30 M x0 x2 x3 s.1 s.2) 1048576 (x4, x6)
set_option maxRecDepth 20000 in
theorem B_X12_empty_30 {l : Launch} {G : Gv} {lim : Nat × Nat} (M : Mem) (x0 : Nat) (x2 : Int32) (x3 : Int32) (x4 : Int64) (x6 : Int32) (K : (Int64 × Int32) ⊕ ((Int64)) → Option (Option Value × Mem)) (kk1 : ∀ (s4 : Int64) (s6 : Int32), SimR l G Y_X12_empty lim (K (.inl (s4, s6))) 30 [some (.inr (.inr x0)), none, some (.inl x2), some (.inl x3), some (.inr (.inl s4)), none, some (.inl s6)] [] M) (kk2_0 : ∀ (s4 : Int64), SimR l G Y_X12_empty lim (K (.inr s4)) 71 [some (.inr (.inr x0)), none, none, some (.inl x3), some (.inr (.inl s4)), none, none] [] M) : Sim l G Y_X12_empty lim (f_X12_empty_B30 M x0 x2 x3 x4 x6) K 30 [some (.inr (.inr x0)), none, some (.inl x2), some (.inl x3), some (.inr (.inl x4)), none, some (.inl x6)] [] M := by
  unfold f_X12_empty_B30
  refine s_run (b := [(.iload 6, 2), (.iconst 1, 1), (.aload_n 0, 1)]) 34 [some (.inr (.inr x0)), none, some (.inl x2), some (.inl x3), some (.inr (.inl x4)), none, some (.inl x6)] [.inr (.inr x0), .inl (1 : Int32), .inl x6] (by decide +kernel) rfl ?_
  refine s_gI fl_12_162 rfl (by decide +kernel) (fun v1 => ?_)
  refine s_run (b := [(.ishl, 1)]) 38 [some (.inr (.inr x0)), none, some (.inl x2), some (.inl x3), some (.inr (.inl x4)), none, some (.inl x6)] [.inl ((1 : Int32) <<< (v1 &&& 31)), .inl x6] (by decide +kernel) rfl ?_
  refine s_ic_ge (tgt := 71) (off := 33) (by decide +kernel) (by decide) (fun h2 => ?_) (fun h2 => ?_)
  · skip
    exact s_lsub (ls' := [some (.inr (.inr x0)), none, none, some (.inl x3), some (.inr (.inl x4)), none, none]) ⟨rfl, ⟨rfl, ⟨rfl, trivial⟩⟩⟩ (kk2_0 x4)
  · skip
    refine s_run (b := [(.lload 4, 2), (.iload 6, 2)]) 45 [some (.inr (.inr x0)), none, some (.inl x2), some (.inl x3), some (.inr (.inl x4)), none, some (.inl x6)] [.inl x6, .inr (.inl x4)] (by decide +kernel) rfl ?_
    refine s_cS (Z := Y_X12_bitsOf) (vs := [.inl x6]) (st := [.inr (.inl x4)]) (rO := fun z => some (.inl z)) (mO := fun _ => M) zk_X12_bitsOf q1650 q1649 ⟨by decide, by decide⟩ ⟨rfl, rfl⟩ rfl rfl (Nat.le_of_ble_eq_true rfl) (by decide +kernel) (fun z hz => c_X12_bitsOf hz) (fun v3 => ?_)
    change Sim l G Y_X12_empty lim _ _ 48 [some (.inr (.inr x0)), none, some (.inl x2), some (.inl x3), some (.inr (.inl x4)), none, some (.inl x6)] [.inl v3, .inr (.inl x4)] M
    refine s_run (b := [(.iload_n 2, 1)]) 49 [some (.inr (.inr x0)), none, some (.inl x2), some (.inl x3), some (.inr (.inl x4)), none, some (.inl x6)] [.inl x2, .inl v3, .inr (.inl x4)] (by decide +kernel) rfl ?_
    refine s_ic_ne (tgt := 61) (off := 12) (by decide +kernel) (by decide) (fun h4 => ?_) (fun h4 => ?_)
    · skip
      refine s_run (b := [(.aload_n 0, 1), (.iload 6, 2)]) 55 [some (.inr (.inr x0)), none, some (.inl x2), some (.inl x3), some (.inr (.inl x4)), none, some (.inl x6)] [.inl x6, .inr (.inr x0), .inr (.inl x4)] (by decide +kernel) rfl ?_
      refine s_cV (Z := Y_X12_weightOf) (c := 12) (vs := [.inl x6]) (st := [.inr (.inl x4)]) (rO := fun z => some (.inr (.inl z))) (mO := fun _ => M) zk_X12_weightOf zi_X12_weightOf q1665 rfl ⟨by decide, by decide⟩ ⟨rfl, rfl⟩ rfl rfl (Nat.le_of_ble_eq_true rfl) (by decide +kernel) (fun z hz => c_X12_weightOf hz) (fun v5 => ?_)
      change Sim l G Y_X12_empty lim _ _ 58 [some (.inr (.inr x0)), none, some (.inl x2), some (.inl x3), some (.inr (.inl x4)), none, some (.inl x6)] [.inr (.inl v5), .inr (.inl x4)] M
      refine s_run (b := [(.goto 4, 3), (.ladd, 1), (.lstore 4, 2), (.iinc 6 1, 3), (.goto (-38), 3)]) 30 [some (.inr (.inr x0)), none, some (.inl x2), some (.inl x3), some (.inr (.inl (x4 + v5))), none, some (.inl (x6 + (1 : Int32)))] [] (by decide +kernel) rfl ?_
      exact s_lsub (ls' := [some (.inr (.inr x0)), none, some (.inl x2), some (.inl x3), some (.inr (.inl (x4 + v5))), none, some (.inl (x6 + (1 : Int32)))]) ⟨rfl, ⟨rfl, ⟨rfl, ⟨rfl, ⟨rfl, trivial⟩⟩⟩⟩⟩ (kk1 (x4 + v5) (x6 + (1 : Int32)))
    · skip
      refine s_run (b := [(.lconst 0, 1), (.ladd, 1), (.lstore 4, 2), (.iinc 6 1, 3), (.goto (-38), 3)]) 30 [some (.inr (.inr x0)), none, some (.inl x2), some (.inl x3), some (.inr (.inl (x4 + (0 : Int64)))), none, some (.inl (x6 + (1 : Int32)))] [] (by decide +kernel) rfl ?_
      exact s_lsub (ls' := [some (.inr (.inr x0)), none, some (.inl x2), some (.inl x3), some (.inr (.inl (x4 + (0 : Int64)))), none, some (.inl (x6 + (1 : Int32)))]) ⟨rfl, ⟨rfl, ⟨rfl, ⟨rfl, ⟨rfl, trivial⟩⟩⟩⟩⟩ (kk1 (x4 + (0 : Int64)) (x6 + (1 : Int32)))
set_option maxRecDepth 20000 in
theorem L_X12_empty_30 {l : Launch} {G : Gv} {lim : Nat × Nat} (M : Mem) (x0 : Nat) (x2 : Int32) (x3 : Int32) (x4 : Int64) (x6 : Int32) (K : ((Int64)) → Option (Option Value × Mem)) (kk2_0 : ∀ r : Int64, SimR l G Y_X12_empty lim (K r) 71 [some (.inr (.inr x0)), none, none, some (.inl x3), some (.inr (.inl r)), none, none] [] M) : Sim l G Y_X12_empty lim (f_X12_empty_L30 M x0 x2 x3 x4 x6) K 30 [some (.inr (.inr x0)), none, some (.inl x2), some (.inl x3), some (.inr (.inl x4)), none, some (.inl x6)] [] M :=
  s_iter (f := fun s : Int64 × Int32 => f_X12_empty_B30 M x0 x2 x3 s.1 s.2) (hd := 30) (cl := fun s => [some (.inr (.inr x0)), none, some (.inl x2), some (.inl x3), some (.inr (.inl s.1)), none, some (.inl s.2)]) (cm := fun s => M) (xp := fun _ => 71) (xl := fun r => [some (.inr (.inr x0)), none, none, some (.inl x3), some (.inr (.inl r)), none, none]) (xm := fun r => M) (fun s K h1 h2 => B_X12_empty_30 M x0 x2 x3 s.1 s.2 K (fun a4 a6 => h1 (a4, a6)) (fun a4 => h2 a4)) 1048576 (x4, x6) K kk2_0
def f_X12_empty (M : Mem) (x0 : Nat) (x1 : Int32) (x2 : Int32) (x3 : Int32) : Option (Int64 × Mem) :=
  (ob M 12 x0).bind fun _ => (f_X12_isOffice M x0 x1).bind fun z1 =>
  (if z1.1 = 0 then
    f_X12_empty_J20 z1.2  
  else
    (gI z1.2 12 x0 12).bind fun v3 =>
    (f_X12_isIn z1.2 x2 (0 : Int32) v3).bind fun v4 =>
    (if v4 = 0 then
      f_X12_empty_J20 z1.2  
    else
      (f_X12_empty_L30 z1.2 x0 x2 x3 (0 : Int64) (0 : Int32)).bind fun r6 =>
      (gI z1.2 12 x0 12).bind fun v7 =>
      (f_X12_tens z1.2 v7).bind fun v8 =>
      (f_X12_fraction z1.2 r6 v8 x3).bind fun v9 =>
      some (v9, z1.2)))
set_option maxRecDepth 20000 in
theorem S_X12_empty {l : Launch} {G : Gv} {lim : Nat × Nat} (M : Mem) (x0 : Nat) (x1 : Int32) (x2 : Int32) (x3 : Int32) : Sim l G Y_X12_empty lim (f_X12_empty M x0 x1 x2 x3) (fun z => some (some (.long z.1), z.2)) 0 [some (.inr (.inr x0)), some (.inl x1), some (.inl x2), some (.inl x3), none, none, none] [] M := by
  unfold f_X12_empty
  refine s_run (b := [(.aload_n 0, 1), (.iload_n 1, 1)]) 2 [some (.inr (.inr x0)), some (.inl x1), some (.inl x2), some (.inl x3), none, none, none] [.inl x1, .inr (.inr x0)] (by decide +kernel) rfl ?_
  refine s_cV (Z := Y_X12_isOffice) (c := 12) (vs := [.inl x1]) (st := []) (rO := fun z => some (.inl z.1)) (mO := fun z => z.2) zk_X12_isOffice zi_X12_isOffice q1550 rfl ⟨by decide, by decide⟩ ⟨rfl, rfl⟩ rfl rfl (Nat.le_of_ble_eq_true rfl) (by decide +kernel) (fun z hz => c_X12_isOffice hz) (fun z1 => ?_)
  change Sim l G Y_X12_empty lim _ _ 5 [some (.inr (.inr x0)), some (.inl x1), some (.inl x2), some (.inl x3), none, none, none] [.inl z1.1] z1.2
  refine s_if_eq (tgt := 20) (off := 15) (by decide +kernel) (by decide) (fun h2 => ?_) (fun h2 => ?_)
  · skip
    exact s_lsub (ls' := [none, none, none, none, none, none, none]) trivial (J_X12_empty_20 z1.2  )
  · skip
    refine s_run (b := [(.iload_n 2, 1), (.iconst 0, 1), (.aload_n 0, 1)]) 11 [some (.inr (.inr x0)), some (.inl x1), some (.inl x2), some (.inl x3), none, none, none] [.inr (.inr x0), .inl (0 : Int32), .inl x2] (by decide +kernel) rfl ?_
    refine s_gI fl_12_162 rfl (by decide +kernel) (fun v3 => ?_)
    refine s_cS (Z := Y_X12_isIn) (vs := [.inl x2, .inl (0 : Int32), .inl v3]) (st := []) (rO := fun z => some (.inl z)) (mO := fun _ => z1.2) zk_X12_isIn q1464 q1463 ⟨by decide, by decide⟩ ⟨rfl, rfl⟩ rfl rfl (Nat.le_of_ble_eq_true rfl) (by decide +kernel) (fun z hz => c_X12_isIn hz) (fun v4 => ?_)
    change Sim l G Y_X12_empty lim _ _ 17 [some (.inr (.inr x0)), some (.inl x1), some (.inl x2), some (.inl x3), none, none, none] [.inl v4] z1.2
    refine s_if_ne (tgt := 24) (off := 7) (by decide +kernel) (by decide) (fun h5 => ?_) (fun h5 => ?_)
    · skip
      exact s_lsub (ls' := [none, none, none, none, none, none, none]) trivial (J_X12_empty_20 z1.2  )
    · skip
      refine s_run (b := [(.lconst 0, 1), (.lstore 4, 2), (.iconst 0, 1), (.istore 6, 2)]) 30 [some (.inr (.inr x0)), some (.inl x1), some (.inl x2), some (.inl x3), some (.inr (.inl (0 : Int64))), none, some (.inl (0 : Int32))] [] (by decide +kernel) rfl ?_
      refine s_lsub (ls' := [some (.inr (.inr x0)), none, some (.inl x2), some (.inl x3), some (.inr (.inl (0 : Int64))), none, some (.inl (0 : Int32))]) ⟨rfl, ⟨rfl, ⟨rfl, ⟨rfl, ⟨rfl, trivial⟩⟩⟩⟩⟩ ?_
      refine sim_bind (L_X12_empty_30 z1.2 x0 x2 x3 (0 : Int64) (0 : Int32) _ (fun r6 => ?_))
      change Sim l G Y_X12_empty lim _ _ 71 [some (.inr (.inr x0)), none, none, some (.inl x3), some (.inr (.inl r6)), none, none] [] z1.2
      refine s_run (b := [(.lload 4, 2), (.aload_n 0, 1)]) 74 [some (.inr (.inr x0)), none, none, some (.inl x3), some (.inr (.inl r6)), none, none] [.inr (.inr x0), .inr (.inl r6)] (by decide +kernel) rfl ?_
      refine s_gI fl_12_162 rfl (by decide +kernel) (fun v7 => ?_)
      refine s_cS (Z := Y_X12_tens) (vs := [.inl v7]) (st := [.inr (.inl r6)]) (rO := fun z => some (.inr (.inl z))) (mO := fun _ => z1.2) zk_X12_tens q1670 q1669 ⟨by decide, by decide⟩ ⟨rfl, rfl⟩ rfl rfl (Nat.le_of_ble_eq_true rfl) (by decide +kernel) (fun z hz => c_X12_tens hz) (fun v8 => ?_)
      change Sim l G Y_X12_empty lim _ _ 80 [some (.inr (.inr x0)), none, none, some (.inl x3), some (.inr (.inl r6)), none, none] [.inr (.inl v8), .inr (.inl r6)] z1.2
      refine s_run (b := [(.iload_n 3, 1)]) 81 [some (.inr (.inr x0)), none, none, some (.inl x3), some (.inr (.inl r6)), none, none] [.inl x3, .inr (.inl v8), .inr (.inl r6)] (by decide +kernel) rfl ?_
      refine s_cS (Z := Y_X12_fraction) (vs := [.inr (.inl r6), .inr (.inl v8), .inl x3]) (st := []) (rO := fun z => some (.inr (.inl z))) (mO := fun _ => z1.2) zk_X12_fraction q1674 q1673 ⟨by decide, by decide⟩ ⟨rfl, rfl⟩ rfl rfl (Nat.le_of_ble_eq_true rfl) (by decide +kernel) (fun z hz => c_X12_fraction hz) (fun v9 => ?_)
      change Sim l G Y_X12_empty lim _ _ 84 [some (.inr (.inr x0)), none, none, some (.inl x3), some (.inr (.inl r6)), none, none] [.inr (.inl v9)] z1.2
      exact s_lret (by decide +kernel) rfl
set_option maxRecDepth 20000 in
theorem c_X12_empty {l : Launch} {G : Gv} {M : Mem} {x0 : Nat} {x1 : Int32} {x2 : Int32} {x3 : Int32} {z : Int64 × Mem} (h : f_X12_empty M x0 x1 x2 x3 = some z) : MetS l G Y_X12_empty [.inr (.inr x0), .inl x1, .inl x2, .inl x3] M (some (.long z.1)) z.2 :=
  met_of (ls0 := [some (.inr (.inr x0)), some (.inl x1), some (.inl x2), some (.inl x3), none, none, none]) (by decide) rfl (lv_in (m := 3) rfl) (sl_le (Nat.le_of_ble_eq_true rfl)) (by rw [h]; rfl) (Or.inl ⟨rfl, rfl⟩) (S_X12_empty M x0 x1 x2 x3)
def f_X12_end (M : Mem) (x0 : Nat) (x1 : Int32) : Option (Int32 × Mem) :=
  (if x1 < 0 then
    some ((-1 : Int32), M)
  else
    (gR M 12 x0 0).bind fun v2 =>
    (aI M 0 v2 (4 : Int32)).bind fun v3 =>
    (if x1 ≤ v3 then
      (gR M 12 x0 0).bind fun v5 =>
      (sI M 0 v5 (4 : Int32) x1).bind fun M6 =>
      some (x1, M6)
    else
      some ((-1 : Int32), M)))
set_option maxRecDepth 20000 in
theorem S_X12_end {l : Launch} {G : Gv} {lim : Nat × Nat} (M : Mem) (x0 : Nat) (x1 : Int32) : Sim l G Y_X12_end lim (f_X12_end M x0 x1) (fun z => some (some (.int z.1), z.2)) 0 [some (.inr (.inr x0)), some (.inl x1)] [] M := by
  unfold f_X12_end
  refine s_run (b := [(.iload_n 1, 1)]) 1 [some (.inr (.inr x0)), some (.inl x1)] [.inl x1] (by decide +kernel) rfl ?_
  refine s_if_lt (tgt := 14) (off := 13) (by decide +kernel) (by decide) (fun h1 => ?_) (fun h1 => ?_)
  · skip
    refine s_run (b := [(.iconst (-1), 1)]) 15 [some (.inr (.inr x0)), some (.inl x1)] [.inl (-1 : Int32)] (by decide +kernel) rfl ?_
    exact s_iret (by decide +kernel) rfl
  · skip
    refine s_run (b := [(.iload_n 1, 1), (.aload_n 0, 1)]) 6 [some (.inr (.inr x0)), some (.inl x1)] [.inr (.inr x0), .inl x1] (by decide +kernel) rfl ?_
    refine s_gR fl_12_7 rfl (by decide +kernel) (fun v2 => ?_)
    refine s_run (b := [(.iconst 4, 1)]) 10 [some (.inr (.inr x0)), some (.inl x1)] [.inl (4 : Int32), .inr (.inr v2), .inl x1] (by decide +kernel) rfl ?_
    refine s_ia (by decide +kernel) (fun v3 => ?_)
    refine s_ic_le (tgt := 16) (off := 5) (by decide +kernel) (by decide) (fun h4 => ?_) (fun h4 => ?_)
    · skip
      refine s_run (b := [(.aload_n 0, 1)]) 17 [some (.inr (.inr x0)), some (.inl x1)] [.inr (.inr x0)] (by decide +kernel) rfl ?_
      refine s_gR fl_12_7 rfl (by decide +kernel) (fun v5 => ?_)
      refine s_run (b := [(.iconst 4, 1), (.iload_n 1, 1)]) 22 [some (.inr (.inr x0)), some (.inl x1)] [.inl x1, .inl (4 : Int32), .inr (.inr v5)] (by decide +kernel) rfl ?_
      refine s_is (by decide +kernel) (fun M6 => ?_)
      refine s_run (b := [(.iload_n 1, 1)]) 24 [some (.inr (.inr x0)), some (.inl x1)] [.inl x1] (by decide +kernel) rfl ?_
      exact s_iret (by decide +kernel) rfl
    · skip
      refine s_run (b := [(.iconst (-1), 1)]) 15 [some (.inr (.inr x0)), some (.inl x1)] [.inl (-1 : Int32)] (by decide +kernel) rfl ?_
      exact s_iret (by decide +kernel) rfl
set_option maxRecDepth 20000 in
theorem c_X12_end {l : Launch} {G : Gv} {M : Mem} {x0 : Nat} {x1 : Int32} {z : Int32 × Mem} (h : f_X12_end M x0 x1 = some z) : MetS l G Y_X12_end [.inr (.inr x0), .inl x1] M (some (.int z.1)) z.2 :=
  met_of (ls0 := [some (.inr (.inr x0)), some (.inl x1)]) (by decide) rfl (lv_in (m := 0) rfl) (sl_le (Nat.le_of_ble_eq_true rfl)) (by rw [h]; rfl) (Or.inl ⟨rfl, rfl⟩) (S_X12_end M x0 x1)
def f_X12_areLifted_B4 (M : Mem) (x0 : Nat) (x1 : Int32) (x2 : Int32) (x3 : Int32) : Option ((Int32 × Int32 × Mem) ⊕ ((Int32 × Mem))) :=
  (gI M 12 x0 12).bind fun v1 =>
  (if v1 ≤ x3 then
    some (.inr (x2, M))
  else
    (if x2 = 0 then
      some (.inr (x2, M))
    else
      (ob M 12 x0).bind fun _ => (f_X12_rings M x0 x3 x1).bind fun z4 =>
      (gI z4 12 x0 16).bind fun v5 =>
      (if v5 = (-1 : Int32) then
        some (.inl ((0 : Int32), (x3 + (1 : Int32)), z4))
      else
        some (.inl ((1 : Int32), (x3 + (1 : Int32)), z4)))))
def f_X12_areLifted_L4 (M : Mem) (x0 : Nat) (x1 : Int32) (x2 : Int32) (x3 : Int32) : Option ((Int32 × Mem)) := iter (fun s : Int32 × Int32 × Mem => f_X12_areLifted_B4 s.2.2 x0 x1 s.1 s.2.1) 1048576 (x2, x3, M)
set_option maxRecDepth 20000 in
theorem B_X12_areLifted_4 {l : Launch} {G : Gv} {lim : Nat × Nat} (M : Mem) (x0 : Nat) (x1 : Int32) (x2 : Int32) (x3 : Int32) (K : (Int32 × Int32 × Mem) ⊕ ((Int32 × Mem)) → Option (Option Value × Mem)) (kk1 : ∀ (s2 : Int32) (s3 : Int32) (s_ : Mem), SimR l G Y_X12_areLifted lim (K (.inl (s2, s3, s_))) 4 [some (.inr (.inr x0)), some (.inl x1), some (.inl s2), some (.inl s3)] [] s_) (kk2_0 : ∀ (s2 : Int32) (s_ : Mem), SimR l G Y_X12_areLifted lim (K (.inr (s2, s_))) 42 [none, none, some (.inl s2), none] [] s_) : Sim l G Y_X12_areLifted lim (f_X12_areLifted_B4 M x0 x1 x2 x3) K 4 [some (.inr (.inr x0)), some (.inl x1), some (.inl x2), some (.inl x3)] [] M := by
  unfold f_X12_areLifted_B4
  refine s_run (b := [(.iload_n 3, 1), (.aload_n 0, 1)]) 6 [some (.inr (.inr x0)), some (.inl x1), some (.inl x2), some (.inl x3)] [.inr (.inr x0), .inl x3] (by decide +kernel) rfl ?_
  refine s_gI fl_12_162 rfl (by decide +kernel) (fun v1 => ?_)
  refine s_ic_ge (tgt := 42) (off := 33) (by decide +kernel) (by decide) (fun h2 => ?_) (fun h2 => ?_)
  · skip
    exact s_lsub (ls' := [none, none, some (.inl x2), none]) ⟨rfl, trivial⟩ (kk2_0 x2 M)
  · skip
    refine s_run (b := [(.iload_n 2, 1)]) 13 [some (.inr (.inr x0)), some (.inl x1), some (.inl x2), some (.inl x3)] [.inl x2] (by decide +kernel) rfl ?_
    refine s_if_eq (tgt := 42) (off := 29) (by decide +kernel) (by decide) (fun h3 => ?_) (fun h3 => ?_)
    · skip
      exact s_lsub (ls' := [none, none, some (.inl x2), none]) ⟨rfl, trivial⟩ (kk2_0 x2 M)
    · skip
      refine s_run (b := [(.aload_n 0, 1), (.iload_n 3, 1), (.iload_n 1, 1)]) 19 [some (.inr (.inr x0)), some (.inl x1), some (.inl x2), some (.inl x3)] [.inl x1, .inl x3, .inr (.inr x0)] (by decide +kernel) rfl ?_
      refine s_cV (Z := Y_X12_rings) (c := 12) (vs := [.inl x3, .inl x1]) (st := []) (rO := fun _ => none) (mO := fun z => z) zk_X12_rings zi_X12_rings q1605 rfl ⟨by decide, by decide⟩ ⟨rfl, rfl⟩ rfl rfl (Nat.le_of_ble_eq_true rfl) (by decide +kernel) (fun z hz => c_X12_rings hz) (fun z4 => ?_)
      change Sim l G Y_X12_areLifted lim _ _ 22 [some (.inr (.inr x0)), some (.inl x1), some (.inl x2), some (.inl x3)] [] z4
      refine s_run (b := [(.aload_n 0, 1)]) 23 [some (.inr (.inr x0)), some (.inl x1), some (.inl x2), some (.inl x3)] [.inr (.inr x0)] (by decide +kernel) rfl ?_
      refine s_gI fl_12_195 rfl (by decide +kernel) (fun v5 => ?_)
      refine s_run (b := [(.iconst (-1), 1)]) 27 [some (.inr (.inr x0)), some (.inl x1), some (.inl x2), some (.inl x3)] [.inl (-1 : Int32), .inl v5] (by decide +kernel) rfl ?_
      refine s_ic_eq (tgt := 34) (off := 7) (by decide +kernel) (by decide) (fun h6 => ?_) (fun h6 => ?_)
      · skip
        refine s_run (b := [(.iconst 0, 1), (.istore_n 2, 1), (.iinc 3 1, 3), (.goto (-35), 3)]) 4 [some (.inr (.inr x0)), some (.inl x1), some (.inl (0 : Int32)), some (.inl (x3 + (1 : Int32)))] [] (by decide +kernel) rfl ?_
        exact s_lsub (ls' := [some (.inr (.inr x0)), some (.inl x1), some (.inl (0 : Int32)), some (.inl (x3 + (1 : Int32)))]) ⟨rfl, ⟨rfl, ⟨rfl, ⟨rfl, trivial⟩⟩⟩⟩ (kk1 (0 : Int32) (x3 + (1 : Int32)) z4)
      · skip
        refine s_run (b := [(.iconst 1, 1), (.goto 4, 3), (.istore_n 2, 1), (.iinc 3 1, 3), (.goto (-35), 3)]) 4 [some (.inr (.inr x0)), some (.inl x1), some (.inl (1 : Int32)), some (.inl (x3 + (1 : Int32)))] [] (by decide +kernel) rfl ?_
        exact s_lsub (ls' := [some (.inr (.inr x0)), some (.inl x1), some (.inl (1 : Int32)), some (.inl (x3 + (1 : Int32)))]) ⟨rfl, ⟨rfl, ⟨rfl, ⟨rfl, trivial⟩⟩⟩⟩ (kk1 (1 : Int32) (x3 + (1 : Int32)) z4)
set_option maxRecDepth 20000 in
theorem L_X12_areLifted_4 {l : Launch} {G : Gv} {lim : Nat × Nat} (M : Mem) (x0 : Nat) (x1 : Int32) (x2 : Int32) (x3 : Int32) (K : ((Int32 × Mem)) → Option (Option Value × Mem)) (kk2_0 : ∀ r : Int32 × Mem, SimR l G Y_X12_areLifted lim (K r) 42 [none, none, some (.inl r.1), none] [] r.2) : Sim l G Y_X12_areLifted lim (f_X12_areLifted_L4 M x0 x1 x2 x3) K 4 [some (.inr (.inr x0)), some (.inl x1), some (.inl x2), some (.inl x3)] [] M :=
  s_iter (f := fun s : Int32 × Int32 × Mem => f_X12_areLifted_B4 s.2.2 x0 x1 s.1 s.2.1) (hd := 4) (cl := fun s => [some (.inr (.inr x0)), some (.inl x1), some (.inl s.1), some (.inl s.2.1)]) (cm := fun s => s.2.2) (xp := fun _ => 42) (xl := fun r => [none, none, some (.inl r.1), none]) (xm := fun r => r.2) (fun s K h1 h2 => B_X12_areLifted_4 s.2.2 x0 x1 s.1 s.2.1 K (fun a2 a3 a_ => h1 (a2, a3, a_)) (fun a2 a_ => h2 (a2, a_))) 1048576 (x2, x3, M) K kk2_0
def f_X12_areLifted (M : Mem) (x0 : Nat) (x1 : Int32) : Option (Int32 × Mem) :=
  (f_X12_areLifted_L4 M x0 x1 (1 : Int32) (0 : Int32)).bind fun r1 =>
  (zr r1.1).bind fun w2 => some (w2, r1.2)
set_option maxRecDepth 20000 in
theorem S_X12_areLifted {l : Launch} {G : Gv} {lim : Nat × Nat} (M : Mem) (x0 : Nat) (x1 : Int32) : Sim l G Y_X12_areLifted lim (f_X12_areLifted M x0 x1) (fun z => some (some (.int z.1), z.2)) 0 [some (.inr (.inr x0)), some (.inl x1), none, none] [] M := by
  unfold f_X12_areLifted
  refine s_run (b := [(.iconst 1, 1), (.istore_n 2, 1), (.iconst 0, 1), (.istore_n 3, 1)]) 4 [some (.inr (.inr x0)), some (.inl x1), some (.inl (1 : Int32)), some (.inl (0 : Int32))] [] (by decide +kernel) rfl ?_
  refine s_lsub (ls' := [some (.inr (.inr x0)), some (.inl x1), some (.inl (1 : Int32)), some (.inl (0 : Int32))]) ⟨rfl, ⟨rfl, ⟨rfl, ⟨rfl, trivial⟩⟩⟩⟩ ?_
  refine sim_bind (L_X12_areLifted_4 M x0 x1 (1 : Int32) (0 : Int32) _ (fun r1 => ?_))
  change Sim l G Y_X12_areLifted lim _ _ 42 [none, none, some (.inl r1.1), none] [] r1.2
  refine s_run (b := [(.iload_n 2, 1)]) 43 [none, none, some (.inl r1.1), none] [.inl r1.1] (by decide +kernel) rfl ?_
  exact s_zr (fun h3 => s_bret h3 (by decide +kernel) rfl)
set_option maxRecDepth 20000 in
theorem c_X12_areLifted {l : Launch} {G : Gv} {M : Mem} {x0 : Nat} {x1 : Int32} {z : Int32 × Mem} (h : f_X12_areLifted M x0 x1 = some z) : MetS l G Y_X12_areLifted [.inr (.inr x0), .inl x1] M (some (.int z.1)) z.2 :=
  met_of (ls0 := [some (.inr (.inr x0)), some (.inl x1), none, none]) (by decide) rfl (lv_in (m := 2) rfl) (sl_le (Nat.le_of_ble_eq_true rfl)) (by rw [h]; rfl) (Or.inl ⟨rfl, rfl⟩) (S_X12_areLifted M x0 x1)
def f_X12_enough_B25 (M : Mem) (x0 : Nat) (x2 : Int32) (x3 : Int32) : Option ((Int32 × Int32 × Mem) ⊕ ((Int32 × Mem))) :=
  (if x3 < 0 then
    some (.inr (x2, M))
  else
    (f_X12_bitsOf M x3).bind fun v2 =>
    (f_X12_bitsOf M x2).bind fun v3 =>
    (if v3 < v2 then
      some (.inl (x2, (x3 + Int32.ofInt (-1)), M))
    else
      (ob M 12 x0).bind fun _ => (f_X12_areLifted M x0 x3).bind fun z5 =>
      (if z5.1 = 0 then
        some (.inl (x2, (x3 + Int32.ofInt (-1)), z5.2))
      else
        some (.inl (x3, (x3 + Int32.ofInt (-1)), z5.2)))))
def f_X12_enough_L25 (M : Mem) (x0 : Nat) (x2 : Int32) (x3 : Int32) : Option ((Int32 × Mem)) := iter (fun s : Int32 × Int32 × Mem => f_X12_enough_B25 s.2.2 x0 s.1 s.2.1) 1048576 (x2, x3, M)
set_option maxRecDepth 20000 in
theorem B_X12_enough_25 {l : Launch} {G : Gv} {lim : Nat × Nat} (M : Mem) (x0 : Nat) (x2 : Int32) (x3 : Int32) (K : (Int32 × Int32 × Mem) ⊕ ((Int32 × Mem)) → Option (Option Value × Mem)) (kk1 : ∀ (s2 : Int32) (s3 : Int32) (s_ : Mem), SimR l G Y_X12_enough lim (K (.inl (s2, s3, s_))) 25 [some (.inr (.inr x0)), none, some (.inl s2), some (.inl s3)] [] s_) (kk2_0 : ∀ (s2 : Int32) (s_ : Mem), SimR l G Y_X12_enough lim (K (.inr (s2, s_))) 56 [none, none, some (.inl s2), none] [] s_) : Sim l G Y_X12_enough lim (f_X12_enough_B25 M x0 x2 x3) K 25 [some (.inr (.inr x0)), none, some (.inl x2), some (.inl x3)] [] M := by
  unfold f_X12_enough_B25
  refine s_run (b := [(.iload_n 3, 1)]) 26 [some (.inr (.inr x0)), none, some (.inl x2), some (.inl x3)] [.inl x3] (by decide +kernel) rfl ?_
  refine s_if_lt (tgt := 56) (off := 30) (by decide +kernel) (by decide) (fun h1 => ?_) (fun h1 => ?_)
  · skip
    exact s_lsub (ls' := [none, none, some (.inl x2), none]) ⟨rfl, trivial⟩ (kk2_0 x2 M)
  · skip
    refine s_run (b := [(.iload_n 3, 1)]) 30 [some (.inr (.inr x0)), none, some (.inl x2), some (.inl x3)] [.inl x3] (by decide +kernel) rfl ?_
    refine s_cS (Z := Y_X12_bitsOf) (vs := [.inl x3]) (st := []) (rO := fun z => some (.inl z)) (mO := fun _ => M) zk_X12_bitsOf q1650 q1649 ⟨by decide, by decide⟩ ⟨rfl, rfl⟩ rfl rfl (Nat.le_of_ble_eq_true rfl) (by decide +kernel) (fun z hz => c_X12_bitsOf hz) (fun v2 => ?_)
    change Sim l G Y_X12_enough lim _ _ 33 [some (.inr (.inr x0)), none, some (.inl x2), some (.inl x3)] [.inl v2] M
    refine s_run (b := [(.iload_n 2, 1)]) 34 [some (.inr (.inr x0)), none, some (.inl x2), some (.inl x3)] [.inl x2, .inl v2] (by decide +kernel) rfl ?_
    refine s_cS (Z := Y_X12_bitsOf) (vs := [.inl x2]) (st := [.inl v2]) (rO := fun z => some (.inl z)) (mO := fun _ => M) zk_X12_bitsOf q1650 q1649 ⟨by decide, by decide⟩ ⟨rfl, rfl⟩ rfl rfl (Nat.le_of_ble_eq_true rfl) (by decide +kernel) (fun z hz => c_X12_bitsOf hz) (fun v3 => ?_)
    change Sim l G Y_X12_enough lim _ _ 37 [some (.inr (.inr x0)), none, some (.inl x2), some (.inl x3)] [.inl v3, .inl v2] M
    refine s_ic_gt (tgt := 50) (off := 13) (by decide +kernel) (by decide) (fun h4 => ?_) (fun h4 => ?_)
    · skip
      refine s_run (b := [(.iinc 3 (-1), 3), (.goto (-28), 3)]) 25 [some (.inr (.inr x0)), none, some (.inl x2), some (.inl (x3 + Int32.ofInt (-1)))] [] (by decide +kernel) rfl ?_
      exact s_lsub (ls' := [some (.inr (.inr x0)), none, some (.inl x2), some (.inl (x3 + Int32.ofInt (-1)))]) ⟨rfl, ⟨rfl, ⟨rfl, trivial⟩⟩⟩ (kk1 x2 (x3 + Int32.ofInt (-1)) M)
    · skip
      refine s_run (b := [(.aload_n 0, 1), (.iload_n 3, 1)]) 42 [some (.inr (.inr x0)), none, some (.inl x2), some (.inl x3)] [.inl x3, .inr (.inr x0)] (by decide +kernel) rfl ?_
      refine s_cV (Z := Y_X12_areLifted) (c := 12) (vs := [.inl x3]) (st := []) (rO := fun z => some (.inl z.1)) (mO := fun z => z.2) zk_X12_areLifted zi_X12_areLifted q1652 rfl ⟨by decide, by decide⟩ ⟨rfl, rfl⟩ rfl rfl (Nat.le_of_ble_eq_true rfl) (by decide +kernel) (fun z hz => c_X12_areLifted hz) (fun z5 => ?_)
      change Sim l G Y_X12_enough lim _ _ 45 [some (.inr (.inr x0)), none, some (.inl x2), some (.inl x3)] [.inl z5.1] z5.2
      refine s_if_eq (tgt := 50) (off := 5) (by decide +kernel) (by decide) (fun h6 => ?_) (fun h6 => ?_)
      · skip
        refine s_run (b := [(.iinc 3 (-1), 3), (.goto (-28), 3)]) 25 [some (.inr (.inr x0)), none, some (.inl x2), some (.inl (x3 + Int32.ofInt (-1)))] [] (by decide +kernel) rfl ?_
        exact s_lsub (ls' := [some (.inr (.inr x0)), none, some (.inl x2), some (.inl (x3 + Int32.ofInt (-1)))]) ⟨rfl, ⟨rfl, ⟨rfl, trivial⟩⟩⟩ (kk1 x2 (x3 + Int32.ofInt (-1)) z5.2)
      · skip
        refine s_run (b := [(.iload_n 3, 1), (.istore_n 2, 1), (.iinc 3 (-1), 3), (.goto (-28), 3)]) 25 [some (.inr (.inr x0)), none, some (.inl x3), some (.inl (x3 + Int32.ofInt (-1)))] [] (by decide +kernel) rfl ?_
        exact s_lsub (ls' := [some (.inr (.inr x0)), none, some (.inl x3), some (.inl (x3 + Int32.ofInt (-1)))]) ⟨rfl, ⟨rfl, ⟨rfl, trivial⟩⟩⟩ (kk1 x3 (x3 + Int32.ofInt (-1)) z5.2)
set_option maxRecDepth 20000 in
theorem L_X12_enough_25 {l : Launch} {G : Gv} {lim : Nat × Nat} (M : Mem) (x0 : Nat) (x2 : Int32) (x3 : Int32) (K : ((Int32 × Mem)) → Option (Option Value × Mem)) (kk2_0 : ∀ r : Int32 × Mem, SimR l G Y_X12_enough lim (K r) 56 [none, none, some (.inl r.1), none] [] r.2) : Sim l G Y_X12_enough lim (f_X12_enough_L25 M x0 x2 x3) K 25 [some (.inr (.inr x0)), none, some (.inl x2), some (.inl x3)] [] M :=
  s_iter (f := fun s : Int32 × Int32 × Mem => f_X12_enough_B25 s.2.2 x0 s.1 s.2.1) (hd := 25) (cl := fun s => [some (.inr (.inr x0)), none, some (.inl s.1), some (.inl s.2.1)]) (cm := fun s => s.2.2) (xp := fun _ => 56) (xl := fun r => [none, none, some (.inl r.1), none]) (xm := fun r => r.2) (fun s K h1 h2 => B_X12_enough_25 s.2.2 x0 s.1 s.2.1 K (fun a2 a3 a_ => h1 (a2, a3, a_)) (fun a2 a_ => h2 (a2, a_))) 1048576 (x2, x3, M) K kk2_0
def f_X12_enough (M : Mem) (x0 : Nat) (x1 : Int32) : Option (Int32 × Mem) :=
  (ob M 12 x0).bind fun _ => (f_X12_isOffice M x0 x1).bind fun z1 =>
  (if z1.1 = 0 then
    some ((-1 : Int32), z1.2)
  else
    (ob z1.2 12 x0).bind fun _ => (f_X12_asTold z1.2 x0).bind fun z3 =>
    (gI z3 12 x0 12).bind fun v4 =>
    (f_X12_enough_L25 z3 x0 (((1 : Int32) <<< (v4 &&& 31)) - (1 : Int32)) (((1 : Int32) <<< (v4 &&& 31)) - (1 : Int32))).bind fun r5 =>
    some (r5.1, r5.2))
set_option maxRecDepth 20000 in
theorem S_X12_enough {l : Launch} {G : Gv} {lim : Nat × Nat} (M : Mem) (x0 : Nat) (x1 : Int32) : Sim l G Y_X12_enough lim (f_X12_enough M x0 x1) (fun z => some (some (.int z.1), z.2)) 0 [some (.inr (.inr x0)), some (.inl x1), none, none] [] M := by
  unfold f_X12_enough
  refine s_run (b := [(.aload_n 0, 1), (.iload_n 1, 1)]) 2 [some (.inr (.inr x0)), some (.inl x1), none, none] [.inl x1, .inr (.inr x0)] (by decide +kernel) rfl ?_
  refine s_cV (Z := Y_X12_isOffice) (c := 12) (vs := [.inl x1]) (st := []) (rO := fun z => some (.inl z.1)) (mO := fun z => z.2) zk_X12_isOffice zi_X12_isOffice q1550 rfl ⟨by decide, by decide⟩ ⟨rfl, rfl⟩ rfl rfl (Nat.le_of_ble_eq_true rfl) (by decide +kernel) (fun z hz => c_X12_isOffice hz) (fun z1 => ?_)
  change Sim l G Y_X12_enough lim _ _ 5 [some (.inr (.inr x0)), some (.inl x1), none, none] [.inl z1.1] z1.2
  refine s_if_ne (tgt := 10) (off := 5) (by decide +kernel) (by decide) (fun h2 => ?_) (fun h2 => ?_)
  · skip
    refine s_run (b := [(.iconst (-1), 1)]) 9 [some (.inr (.inr x0)), some (.inl x1), none, none] [.inl (-1 : Int32)] (by decide +kernel) rfl ?_
    exact s_iret (by decide +kernel) rfl
  · skip
    refine s_run (b := [(.aload_n 0, 1)]) 11 [some (.inr (.inr x0)), some (.inl x1), none, none] [.inr (.inr x0)] (by decide +kernel) rfl ?_
    refine s_cV (Z := Y_X12_asTold) (c := 12) (vs := []) (st := []) (rO := fun _ => none) (mO := fun z => z) zk_X12_asTold zi_X12_asTold q1590 rfl ⟨by decide, by decide⟩ ⟨rfl, rfl⟩ rfl rfl (Nat.le_of_ble_eq_true rfl) (by decide +kernel) (fun z hz => c_X12_asTold hz) (fun z3 => ?_)
    change Sim l G Y_X12_enough lim _ _ 14 [some (.inr (.inr x0)), some (.inl x1), none, none] [] z3
    refine s_run (b := [(.iconst 1, 1), (.aload_n 0, 1)]) 16 [some (.inr (.inr x0)), some (.inl x1), none, none] [.inr (.inr x0), .inl (1 : Int32)] (by decide +kernel) rfl ?_
    refine s_gI fl_12_162 rfl (by decide +kernel) (fun v4 => ?_)
    refine s_run (b := [(.ishl, 1), (.iconst 1, 1), (.isub, 1), (.istore_n 2, 1), (.iload_n 2, 1), (.istore_n 3, 1)]) 25 [some (.inr (.inr x0)), some (.inl x1), some (.inl (((1 : Int32) <<< (v4 &&& 31)) - (1 : Int32))), some (.inl (((1 : Int32) <<< (v4 &&& 31)) - (1 : Int32)))] [] (by decide +kernel) rfl ?_
    refine s_lsub (ls' := [some (.inr (.inr x0)), none, some (.inl (((1 : Int32) <<< (v4 &&& 31)) - (1 : Int32))), some (.inl (((1 : Int32) <<< (v4 &&& 31)) - (1 : Int32)))]) ⟨rfl, ⟨rfl, ⟨rfl, trivial⟩⟩⟩ ?_
    refine sim_bind (L_X12_enough_25 z3 x0 (((1 : Int32) <<< (v4 &&& 31)) - (1 : Int32)) (((1 : Int32) <<< (v4 &&& 31)) - (1 : Int32)) _ (fun r5 => ?_))
    change Sim l G Y_X12_enough lim _ _ 56 [none, none, some (.inl r5.1), none] [] r5.2
    refine s_run (b := [(.iload_n 2, 1)]) 57 [none, none, some (.inl r5.1), none] [.inl r5.1] (by decide +kernel) rfl ?_
    exact s_iret (by decide +kernel) rfl
set_option maxRecDepth 20000 in
theorem c_X12_enough {l : Launch} {G : Gv} {M : Mem} {x0 : Nat} {x1 : Int32} {z : Int32 × Mem} (h : f_X12_enough M x0 x1 = some z) : MetS l G Y_X12_enough [.inr (.inr x0), .inl x1] M (some (.int z.1)) z.2 :=
  met_of (ls0 := [some (.inr (.inr x0)), some (.inl x1), none, none]) (by decide) rfl (lv_in (m := 2) rfl) (sl_le (Nat.le_of_ble_eq_true rfl)) (by rw [h]; rfl) (Or.inl ⟨rfl, rfl⟩) (S_X12_enough M x0 x1)
def f_X12_fact (M : Mem) (x0 : Nat) (x1 : Int32) (x2 : Int32) (x3 : Int32) : Option (Int32 × Mem) :=
  (ob M 12 x0).bind fun _ => (f_X12_isLog M x0 x1).bind fun z1 =>
  (if z1.1 = 0 then
    some ((-2 : Int32), z1.2)
  else
    (if x2 = (-1 : Int32) then
      (if x3 = 0 then
        (gR z1.2 12 x0 0).bind fun v5 =>
        (gI z1.2 12 x0 35).bind fun v6 =>
        (aI z1.2 0 v5 v6).bind fun v7 =>
        some (v7, z1.2)
      else
        some ((-2 : Int32), z1.2))
    else
      (gR z1.2 12 x0 0).bind fun v8 =>
      (gI z1.2 12 x0 35).bind fun v9 =>
      (aI z1.2 0 v8 v9).bind fun v10 =>
      (f_X12_isIn z1.2 x2 (0 : Int32) (v10 - (1 : Int32))).bind fun v11 =>
      (if v11 = 0 then
        some ((-2 : Int32), z1.2)
      else
        (f_X12_isIn z1.2 x3 (0 : Int32) (3 : Int32)).bind fun v13 =>
        (if v13 = 0 then
          some ((-2 : Int32), z1.2)
        else
          (gR z1.2 12 x0 0).bind fun v15 =>
          (gI z1.2 12 x0 35).bind fun v16 =>
          (aI z1.2 0 v15 (((v16 + (1 : Int32)) + ((4 : Int32) * x2)) + x3)).bind fun v17 =>
          some (v17, z1.2)))))
set_option maxRecDepth 20000 in
theorem S_X12_fact {l : Launch} {G : Gv} {lim : Nat × Nat} (M : Mem) (x0 : Nat) (x1 : Int32) (x2 : Int32) (x3 : Int32) : Sim l G Y_X12_fact lim (f_X12_fact M x0 x1 x2 x3) (fun z => some (some (.int z.1), z.2)) 0 [some (.inr (.inr x0)), some (.inl x1), some (.inl x2), some (.inl x3)] [] M := by
  unfold f_X12_fact
  refine s_run (b := [(.aload_n 0, 1), (.iload_n 1, 1)]) 2 [some (.inr (.inr x0)), some (.inl x1), some (.inl x2), some (.inl x3)] [.inl x1, .inr (.inr x0)] (by decide +kernel) rfl ?_
  refine s_cV (Z := Y_X12_isLog) (c := 12) (vs := [.inl x1]) (st := []) (rO := fun z => some (.inl z.1)) (mO := fun z => z.2) zk_X12_isLog zi_X12_isLog q1735 rfl ⟨by decide, by decide⟩ ⟨rfl, rfl⟩ rfl rfl (Nat.le_of_ble_eq_true rfl) (by decide +kernel) (fun z hz => c_X12_isLog hz) (fun z1 => ?_)
  change Sim l G Y_X12_fact lim _ _ 5 [some (.inr (.inr x0)), some (.inl x1), some (.inl x2), some (.inl x3)] [.inl z1.1] z1.2
  refine s_if_ne (tgt := 11) (off := 6) (by decide +kernel) (by decide) (fun h2 => ?_) (fun h2 => ?_)
  · skip
    refine s_run (b := [(.bipush (-2), 2)]) 10 [some (.inr (.inr x0)), some (.inl x1), some (.inl x2), some (.inl x3)] [.inl (-2 : Int32)] (by decide +kernel) rfl ?_
    exact s_iret (by decide +kernel) rfl
  · skip
    refine s_run (b := [(.iload_n 2, 1), (.iconst (-1), 1)]) 13 [some (.inr (.inr x0)), some (.inl x1), some (.inl x2), some (.inl x3)] [.inl (-1 : Int32), .inl x2] (by decide +kernel) rfl ?_
    refine s_ic_ne (tgt := 35) (off := 22) (by decide +kernel) (by decide) (fun h3 => ?_) (fun h3 => ?_)
    · skip
      refine s_run (b := [(.iload_n 3, 1)]) 17 [some (.inr (.inr x0)), some (.inl x1), some (.inl x2), some (.inl x3)] [.inl x3] (by decide +kernel) rfl ?_
      refine s_if_ne (tgt := 32) (off := 15) (by decide +kernel) (by decide) (fun h4 => ?_) (fun h4 => ?_)
      · skip
        refine s_run (b := [(.aload_n 0, 1)]) 21 [some (.inr (.inr x0)), some (.inl x1), some (.inl x2), some (.inl x3)] [.inr (.inr x0)] (by decide +kernel) rfl ?_
        refine s_gR fl_12_7 rfl (by decide +kernel) (fun v5 => ?_)
        refine s_run (b := [(.aload_n 0, 1)]) 25 [some (.inr (.inr x0)), some (.inl x1), some (.inl x2), some (.inl x3)] [.inr (.inr x0), .inr (.inr v5)] (by decide +kernel) rfl ?_
        refine s_gI fl_12_333 rfl (by decide +kernel) (fun v6 => ?_)
        refine s_ia (by decide +kernel) (fun v7 => ?_)
        refine s_run (b := [(.goto 5, 3)]) 34 [some (.inr (.inr x0)), some (.inl x1), some (.inl x2), some (.inl x3)] [.inl v7] (by decide +kernel) rfl ?_
        exact s_iret (by decide +kernel) rfl
      · skip
        refine s_run (b := [(.bipush (-2), 2)]) 34 [some (.inr (.inr x0)), some (.inl x1), some (.inl x2), some (.inl x3)] [.inl (-2 : Int32)] (by decide +kernel) rfl ?_
        exact s_iret (by decide +kernel) rfl
    · skip
      refine s_run (b := [(.iload_n 2, 1), (.iconst 0, 1), (.aload_n 0, 1)]) 38 [some (.inr (.inr x0)), some (.inl x1), some (.inl x2), some (.inl x3)] [.inr (.inr x0), .inl (0 : Int32), .inl x2] (by decide +kernel) rfl ?_
      refine s_gR fl_12_7 rfl (by decide +kernel) (fun v8 => ?_)
      refine s_run (b := [(.aload_n 0, 1)]) 42 [some (.inr (.inr x0)), some (.inl x1), some (.inl x2), some (.inl x3)] [.inr (.inr x0), .inr (.inr v8), .inl (0 : Int32), .inl x2] (by decide +kernel) rfl ?_
      refine s_gI fl_12_333 rfl (by decide +kernel) (fun v9 => ?_)
      refine s_ia (by decide +kernel) (fun v10 => ?_)
      refine s_run (b := [(.iconst 1, 1), (.isub, 1)]) 48 [some (.inr (.inr x0)), some (.inl x1), some (.inl x2), some (.inl x3)] [.inl (v10 - (1 : Int32)), .inl (0 : Int32), .inl x2] (by decide +kernel) rfl ?_
      refine s_cS (Z := Y_X12_isIn) (vs := [.inl x2, .inl (0 : Int32), .inl (v10 - (1 : Int32))]) (st := []) (rO := fun z => some (.inl z)) (mO := fun _ => z1.2) zk_X12_isIn q1464 q1463 ⟨by decide, by decide⟩ ⟨rfl, rfl⟩ rfl rfl (Nat.le_of_ble_eq_true rfl) (by decide +kernel) (fun z hz => c_X12_isIn hz) (fun v11 => ?_)
      change Sim l G Y_X12_fact lim _ _ 51 [some (.inr (.inr x0)), some (.inl x1), some (.inl x2), some (.inl x3)] [.inl v11] z1.2
      refine s_if_eq (tgt := 83) (off := 32) (by decide +kernel) (by decide) (fun h12 => ?_) (fun h12 => ?_)
      · skip
        refine s_run (b := [(.bipush (-2), 2)]) 85 [some (.inr (.inr x0)), some (.inl x1), some (.inl x2), some (.inl x3)] [.inl (-2 : Int32)] (by decide +kernel) rfl ?_
        exact s_iret (by decide +kernel) rfl
      · skip
        refine s_run (b := [(.iload_n 3, 1), (.iconst 0, 1), (.iconst 3, 1)]) 57 [some (.inr (.inr x0)), some (.inl x1), some (.inl x2), some (.inl x3)] [.inl (3 : Int32), .inl (0 : Int32), .inl x3] (by decide +kernel) rfl ?_
        refine s_cS (Z := Y_X12_isIn) (vs := [.inl x3, .inl (0 : Int32), .inl (3 : Int32)]) (st := []) (rO := fun z => some (.inl z)) (mO := fun _ => z1.2) zk_X12_isIn q1464 q1463 ⟨by decide, by decide⟩ ⟨rfl, rfl⟩ rfl rfl (Nat.le_of_ble_eq_true rfl) (by decide +kernel) (fun z hz => c_X12_isIn hz) (fun v13 => ?_)
        change Sim l G Y_X12_fact lim _ _ 60 [some (.inr (.inr x0)), some (.inl x1), some (.inl x2), some (.inl x3)] [.inl v13] z1.2
        refine s_if_eq (tgt := 83) (off := 23) (by decide +kernel) (by decide) (fun h14 => ?_) (fun h14 => ?_)
        · skip
          refine s_run (b := [(.bipush (-2), 2)]) 85 [some (.inr (.inr x0)), some (.inl x1), some (.inl x2), some (.inl x3)] [.inl (-2 : Int32)] (by decide +kernel) rfl ?_
          exact s_iret (by decide +kernel) rfl
        · skip
          refine s_run (b := [(.aload_n 0, 1)]) 64 [some (.inr (.inr x0)), some (.inl x1), some (.inl x2), some (.inl x3)] [.inr (.inr x0)] (by decide +kernel) rfl ?_
          refine s_gR fl_12_7 rfl (by decide +kernel) (fun v15 => ?_)
          refine s_run (b := [(.aload_n 0, 1)]) 68 [some (.inr (.inr x0)), some (.inl x1), some (.inl x2), some (.inl x3)] [.inr (.inr x0), .inr (.inr v15)] (by decide +kernel) rfl ?_
          refine s_gI fl_12_333 rfl (by decide +kernel) (fun v16 => ?_)
          refine s_run (b := [(.iconst 1, 1), (.iadd, 1), (.iconst 4, 1), (.iload_n 2, 1), (.imul, 1), (.iadd, 1), (.iload_n 3, 1), (.iadd, 1)]) 79 [some (.inr (.inr x0)), some (.inl x1), some (.inl x2), some (.inl x3)] [.inl (((v16 + (1 : Int32)) + ((4 : Int32) * x2)) + x3), .inr (.inr v15)] (by decide +kernel) rfl ?_
          refine s_ia (by decide +kernel) (fun v17 => ?_)
          refine s_run (b := [(.goto 5, 3)]) 85 [some (.inr (.inr x0)), some (.inl x1), some (.inl x2), some (.inl x3)] [.inl v17] (by decide +kernel) rfl ?_
          exact s_iret (by decide +kernel) rfl
set_option maxRecDepth 20000 in
theorem c_X12_fact {l : Launch} {G : Gv} {M : Mem} {x0 : Nat} {x1 : Int32} {x2 : Int32} {x3 : Int32} {z : Int32 × Mem} (h : f_X12_fact M x0 x1 x2 x3 = some z) : MetS l G Y_X12_fact [.inr (.inr x0), .inl x1, .inl x2, .inl x3] M (some (.int z.1)) z.2 :=
  met_of (ls0 := [some (.inr (.inr x0)), some (.inl x1), some (.inl x2), some (.inl x3)]) (by decide) rfl (lv_in (m := 0) rfl) (sl_le (Nat.le_of_ble_eq_true rfl)) (by rw [h]; rfl) (Or.inl ⟨rfl, rfl⟩) (S_X12_fact M x0 x1 x2 x3)
def f_X12_fault (M : Mem) (x0 : Nat) (x1 : Int32) : Option (Int32) :=
  (if x1 = 0 then
    (gR M 12 x0 0).bind fun v2 =>
    (aI M 0 v2 (5 : Int32)).bind fun v3 =>
    some v3
  else
    (if x1 = (1 : Int32) then
      (gR M 12 x0 0).bind fun v5 =>
      (aI M 0 v5 (6 : Int32)).bind fun v6 =>
      some v6
    else
      some (-1 : Int32)))
set_option maxRecDepth 20000 in
theorem S_X12_fault {l : Launch} {G : Gv} {lim : Nat × Nat} (M : Mem) (x0 : Nat) (x1 : Int32) : Sim l G Y_X12_fault lim (f_X12_fault M x0 x1) (fun z => some (some (.int z), M)) 0 [some (.inr (.inr x0)), some (.inl x1)] [] M := by
  unfold f_X12_fault
  refine s_run (b := [(.iload_n 1, 1)]) 1 [some (.inr (.inr x0)), some (.inl x1)] [.inl x1] (by decide +kernel) rfl ?_
  refine s_if_ne (tgt := 13) (off := 12) (by decide +kernel) (by decide) (fun h1 => ?_) (fun h1 => ?_)
  · skip
    refine s_run (b := [(.aload_n 0, 1)]) 5 [some (.inr (.inr x0)), some (.inl x1)] [.inr (.inr x0)] (by decide +kernel) rfl ?_
    refine s_gR fl_12_7 rfl (by decide +kernel) (fun v2 => ?_)
    refine s_run (b := [(.iconst 5, 1)]) 9 [some (.inr (.inr x0)), some (.inl x1)] [.inl (5 : Int32), .inr (.inr v2)] (by decide +kernel) rfl ?_
    refine s_ia (by decide +kernel) (fun v3 => ?_)
    refine s_run (b := [(.goto 19, 3)]) 29 [some (.inr (.inr x0)), some (.inl x1)] [.inl v3] (by decide +kernel) rfl ?_
    exact s_iret (by decide +kernel) rfl
  · skip
    refine s_run (b := [(.iload_n 1, 1), (.iconst 1, 1)]) 15 [some (.inr (.inr x0)), some (.inl x1)] [.inl (1 : Int32), .inl x1] (by decide +kernel) rfl ?_
    refine s_ic_ne (tgt := 28) (off := 13) (by decide +kernel) (by decide) (fun h4 => ?_) (fun h4 => ?_)
    · skip
      refine s_run (b := [(.aload_n 0, 1)]) 19 [some (.inr (.inr x0)), some (.inl x1)] [.inr (.inr x0)] (by decide +kernel) rfl ?_
      refine s_gR fl_12_7 rfl (by decide +kernel) (fun v5 => ?_)
      refine s_run (b := [(.bipush 6, 2)]) 24 [some (.inr (.inr x0)), some (.inl x1)] [.inl (6 : Int32), .inr (.inr v5)] (by decide +kernel) rfl ?_
      refine s_ia (by decide +kernel) (fun v6 => ?_)
      refine s_run (b := [(.goto 4, 3)]) 29 [some (.inr (.inr x0)), some (.inl x1)] [.inl v6] (by decide +kernel) rfl ?_
      exact s_iret (by decide +kernel) rfl
    · skip
      refine s_run (b := [(.iconst (-1), 1)]) 29 [some (.inr (.inr x0)), some (.inl x1)] [.inl (-1 : Int32)] (by decide +kernel) rfl ?_
      exact s_iret (by decide +kernel) rfl
set_option maxRecDepth 20000 in
theorem c_X12_fault {l : Launch} {G : Gv} {M : Mem} {x0 : Nat} {x1 : Int32} {z : Int32} (h : f_X12_fault M x0 x1 = some z) : MetS l G Y_X12_fault [.inr (.inr x0), .inl x1] M (some (.int z)) M :=
  met_of (ls0 := [some (.inr (.inr x0)), some (.inl x1)]) (by decide) rfl (lv_in (m := 0) rfl) (sl_le (Nat.le_of_ble_eq_true rfl)) (by rw [h]; rfl) (Or.inl ⟨rfl, rfl⟩) (S_X12_fault M x0 x1)
def f_X12_feed_J73 (M : Mem) (x0 : Nat) (x1 : Int32) (x2 : Int32) (x3 : Int32) (x4 : Int32) (x5 : Int32) (x6 : Int32) (y0 : Int32) : Option ((Int32 × Mem) ⊕ ((Mem))) :=
  (gR M 12 x0 0).bind fun v1 =>
  (gR M 12 x0 0).bind fun v2 =>
  (aI M 0 v2 (4 : Int32)).bind fun v3 =>
  (rmI x6 (4 : Int32)).bind fun v4 =>
  (sI M 0 v1 ((10 : Int32) + v3) ((y0 >>> (((24 : Int32) - ((8 : Int32) * v4)) &&& 31)) &&& (255 : Int32))).bind fun M5 =>
  (gR M5 12 x0 0).bind fun v6 =>
  (aI M5 0 v6 (4 : Int32)).bind fun v7 =>
  (sI M5 0 v6 (4 : Int32) (v7 + (1 : Int32))).bind fun M8 =>
  some (.inl ((x6 + (1 : Int32)), M8))
set_option maxRecDepth 20000 in
theorem J_X12_feed_73 {l : Launch} {G : Gv} {lim : Nat × Nat} (M : Mem) (x0 : Nat) (x1 : Int32) (x2 : Int32) (x3 : Int32) (x4 : Int32) (x5 : Int32) (x6 : Int32) (y0 : Int32) (K : (Int32 × Mem) ⊕ ((Mem)) → Option (Option Value × Mem)) (kk1 : ∀ (s6 : Int32) (s_ : Mem), SimR l G Y_X12_feed lim (K (.inl (s6, s_))) 20 [some (.inr (.inr x0)), some (.inl x1), some (.inl x2), some (.inl x3), some (.inl x4), some (.inl x5), some (.inl s6), none] [] s_) (kk2_0 : ∀ (s_ : Mem), SimR l G Y_X12_feed lim (K (.inr s_)) 122 [some (.inr (.inr x0)), none, none, none, none, none, none, none] [] s_) : Sim l G Y_X12_feed lim (f_X12_feed_J73 M x0 x1 x2 x3 x4 x5 x6 y0) K 73 [some (.inr (.inr x0)), some (.inl x1), some (.inl x2), some (.inl x3), some (.inl x4), some (.inl x5), some (.inl x6), none] [.inl y0] M := by
  unfold f_X12_feed_J73
  refine s_run (b := [(.istore 7, 2), (.aload_n 0, 1)]) 76 [some (.inr (.inr x0)), some (.inl x1), some (.inl x2), some (.inl x3), some (.inl x4), some (.inl x5), some (.inl x6), some (.inl y0)] [.inr (.inr x0)] (by decide +kernel) rfl ?_
  refine s_gR fl_12_7 rfl (by decide +kernel) (fun v1 => ?_)
  refine s_run (b := [(.bipush 10, 2), (.aload_n 0, 1)]) 82 [some (.inr (.inr x0)), some (.inl x1), some (.inl x2), some (.inl x3), some (.inl x4), some (.inl x5), some (.inl x6), some (.inl y0)] [.inr (.inr x0), .inl (10 : Int32), .inr (.inr v1)] (by decide +kernel) rfl ?_
  refine s_gR fl_12_7 rfl (by decide +kernel) (fun v2 => ?_)
  refine s_run (b := [(.iconst 4, 1)]) 86 [some (.inr (.inr x0)), some (.inl x1), some (.inl x2), some (.inl x3), some (.inl x4), some (.inl x5), some (.inl x6), some (.inl y0)] [.inl (4 : Int32), .inr (.inr v2), .inl (10 : Int32), .inr (.inr v1)] (by decide +kernel) rfl ?_
  refine s_ia (by decide +kernel) (fun v3 => ?_)
  refine s_run (b := [(.iadd, 1), (.iload 7, 2), (.bipush 24, 2), (.bipush 8, 2), (.iload 6, 2), (.iconst 4, 1)]) 97 [some (.inr (.inr x0)), some (.inl x1), some (.inl x2), some (.inl x3), some (.inl x4), some (.inl x5), some (.inl x6), some (.inl y0)] [.inl (4 : Int32), .inl x6, .inl (8 : Int32), .inl (24 : Int32), .inl y0, .inl ((10 : Int32) + v3), .inr (.inr v1)] (by decide +kernel) rfl ?_
  refine s_irem (by decide +kernel) (fun v4 => ?_)
  refine s_run (b := [(.imul, 1), (.isub, 1), (.ishr, 1), (.sipush 255, 3), (.iand, 1)]) 105 [some (.inr (.inr x0)), some (.inl x1), some (.inl x2), some (.inl x3), some (.inl x4), some (.inl x5), some (.inl x6), some (.inl y0)] [.inl ((y0 >>> (((24 : Int32) - ((8 : Int32) * v4)) &&& 31)) &&& (255 : Int32)), .inl ((10 : Int32) + v3), .inr (.inr v1)] (by decide +kernel) rfl ?_
  refine s_is (by decide +kernel) (fun M5 => ?_)
  refine s_run (b := [(.aload_n 0, 1)]) 107 [some (.inr (.inr x0)), some (.inl x1), some (.inl x2), some (.inl x3), some (.inl x4), some (.inl x5), some (.inl x6), some (.inl y0)] [.inr (.inr x0)] (by decide +kernel) rfl ?_
  refine s_gR fl_12_7 rfl (by decide +kernel) (fun v6 => ?_)
  refine s_run (b := [(.iconst 4, 1), (.dup2, 1)]) 112 [some (.inr (.inr x0)), some (.inl x1), some (.inl x2), some (.inl x3), some (.inl x4), some (.inl x5), some (.inl x6), some (.inl y0)] [.inl (4 : Int32), .inr (.inr v6), .inl (4 : Int32), .inr (.inr v6)] (by decide +kernel) rfl ?_
  refine s_ia (by decide +kernel) (fun v7 => ?_)
  refine s_run (b := [(.iconst 1, 1), (.iadd, 1)]) 115 [some (.inr (.inr x0)), some (.inl x1), some (.inl x2), some (.inl x3), some (.inl x4), some (.inl x5), some (.inl x6), some (.inl y0)] [.inl (v7 + (1 : Int32)), .inl (4 : Int32), .inr (.inr v6)] (by decide +kernel) rfl ?_
  refine s_is (by decide +kernel) (fun M8 => ?_)
  refine s_run (b := [(.iinc 6 1, 3), (.goto (-99), 3)]) 20 [some (.inr (.inr x0)), some (.inl x1), some (.inl x2), some (.inl x3), some (.inl x4), some (.inl x5), some (.inl (x6 + (1 : Int32))), some (.inl y0)] [] (by decide +kernel) rfl ?_
  exact s_lsub (ls' := [some (.inr (.inr x0)), some (.inl x1), some (.inl x2), some (.inl x3), some (.inl x4), some (.inl x5), some (.inl (x6 + (1 : Int32))), none]) ⟨rfl, ⟨rfl, ⟨rfl, ⟨rfl, ⟨rfl, ⟨rfl, ⟨rfl, trivial⟩⟩⟩⟩⟩⟩⟩ (kk1 (x6 + (1 : Int32)) M8)
def f_X12_feed_B20 (M : Mem) (x0 : Nat) (x1 : Int32) (x2 : Int32) (x3 : Int32) (x4 : Int32) (x5 : Int32) (x6 : Int32) : Option ((Int32 × Mem) ⊕ ((Mem))) :=
  (if (20 : Int32) ≤ x6 then
    some (.inr M)
  else
    (if (4 : Int32) ≤ x6 then
      (if (8 : Int32) ≤ x6 then
        (if (12 : Int32) ≤ x6 then
          (if (16 : Int32) ≤ x6 then
            f_X12_feed_J73 M x0 x1 x2 x3 x4 x5 x6 x5
          else
            f_X12_feed_J73 M x0 x1 x2 x3 x4 x5 x6 x4)
        else
          f_X12_feed_J73 M x0 x1 x2 x3 x4 x5 x6 x3)
      else
        f_X12_feed_J73 M x0 x1 x2 x3 x4 x5 x6 x2)
    else
      f_X12_feed_J73 M x0 x1 x2 x3 x4 x5 x6 x1))
def f_X12_feed_L20 (M : Mem) (x0 : Nat) (x1 : Int32) (x2 : Int32) (x3 : Int32) (x4 : Int32) (x5 : Int32) (x6 : Int32) : Option ((Mem)) := iter (fun s : Int32 × Mem => f_X12_feed_B20 s.2 x0 x1 x2 x3 x4 x5 s.1) 1048576 (x6, M)
set_option maxRecDepth 20000 in
theorem B_X12_feed_20 {l : Launch} {G : Gv} {lim : Nat × Nat} (M : Mem) (x0 : Nat) (x1 : Int32) (x2 : Int32) (x3 : Int32) (x4 : Int32) (x5 : Int32) (x6 : Int32) (K : (Int32 × Mem) ⊕ ((Mem)) → Option (Option Value × Mem)) (kk1 : ∀ (s6 : Int32) (s_ : Mem), SimR l G Y_X12_feed lim (K (.inl (s6, s_))) 20 [some (.inr (.inr x0)), some (.inl x1), some (.inl x2), some (.inl x3), some (.inl x4), some (.inl x5), some (.inl s6), none] [] s_) (kk2_0 : ∀ (s_ : Mem), SimR l G Y_X12_feed lim (K (.inr s_)) 122 [some (.inr (.inr x0)), none, none, none, none, none, none, none] [] s_) : Sim l G Y_X12_feed lim (f_X12_feed_B20 M x0 x1 x2 x3 x4 x5 x6) K 20 [some (.inr (.inr x0)), some (.inl x1), some (.inl x2), some (.inl x3), some (.inl x4), some (.inl x5), some (.inl x6), none] [] M := by
  unfold f_X12_feed_B20
  refine s_run (b := [(.iload 6, 2), (.bipush 20, 2)]) 24 [some (.inr (.inr x0)), some (.inl x1), some (.inl x2), some (.inl x3), some (.inl x4), some (.inl x5), some (.inl x6), none] [.inl (20 : Int32), .inl x6] (by decide +kernel) rfl ?_
  refine s_ic_ge (tgt := 122) (off := 98) (by decide +kernel) (by decide) (fun h1 => ?_) (fun h1 => ?_)
  · skip
    exact s_lsub (ls' := [some (.inr (.inr x0)), none, none, none, none, none, none, none]) ⟨rfl, trivial⟩ (kk2_0 M)
  · skip
    refine s_run (b := [(.iload 6, 2), (.iconst 4, 1)]) 30 [some (.inr (.inr x0)), some (.inl x1), some (.inl x2), some (.inl x3), some (.inl x4), some (.inl x5), some (.inl x6), none] [.inl (4 : Int32), .inl x6] (by decide +kernel) rfl ?_
    refine s_ic_ge (tgt := 37) (off := 7) (by decide +kernel) (by decide) (fun h2 => ?_) (fun h2 => ?_)
    · skip
      refine s_run (b := [(.iload 6, 2), (.bipush 8, 2)]) 41 [some (.inr (.inr x0)), some (.inl x1), some (.inl x2), some (.inl x3), some (.inl x4), some (.inl x5), some (.inl x6), none] [.inl (8 : Int32), .inl x6] (by decide +kernel) rfl ?_
      refine s_ic_ge (tgt := 48) (off := 7) (by decide +kernel) (by decide) (fun h3 => ?_) (fun h3 => ?_)
      · skip
        refine s_run (b := [(.iload 6, 2), (.bipush 12, 2)]) 52 [some (.inr (.inr x0)), some (.inl x1), some (.inl x2), some (.inl x3), some (.inl x4), some (.inl x5), some (.inl x6), none] [.inl (12 : Int32), .inl x6] (by decide +kernel) rfl ?_
        refine s_ic_ge (tgt := 59) (off := 7) (by decide +kernel) (by decide) (fun h4 => ?_) (fun h4 => ?_)
        · skip
          refine s_run (b := [(.iload 6, 2), (.bipush 16, 2)]) 63 [some (.inr (.inr x0)), some (.inl x1), some (.inl x2), some (.inl x3), some (.inl x4), some (.inl x5), some (.inl x6), none] [.inl (16 : Int32), .inl x6] (by decide +kernel) rfl ?_
          refine s_ic_ge (tgt := 71) (off := 8) (by decide +kernel) (by decide) (fun h5 => ?_) (fun h5 => ?_)
          · skip
            refine s_run (b := [(.iload 5, 2)]) 73 [some (.inr (.inr x0)), some (.inl x1), some (.inl x2), some (.inl x3), some (.inl x4), some (.inl x5), some (.inl x6), none] [.inl x5] (by decide +kernel) rfl ?_
            exact s_lsub (ls' := [some (.inr (.inr x0)), some (.inl x1), some (.inl x2), some (.inl x3), some (.inl x4), some (.inl x5), some (.inl x6), none]) ⟨rfl, ⟨rfl, ⟨rfl, ⟨rfl, ⟨rfl, ⟨rfl, ⟨rfl, trivial⟩⟩⟩⟩⟩⟩⟩ (J_X12_feed_73 M x0 x1 x2 x3 x4 x5 x6 x5 K kk1 kk2_0)
          · skip
            refine s_run (b := [(.iload 4, 2), (.goto 5, 3)]) 73 [some (.inr (.inr x0)), some (.inl x1), some (.inl x2), some (.inl x3), some (.inl x4), some (.inl x5), some (.inl x6), none] [.inl x4] (by decide +kernel) rfl ?_
            exact s_lsub (ls' := [some (.inr (.inr x0)), some (.inl x1), some (.inl x2), some (.inl x3), some (.inl x4), some (.inl x5), some (.inl x6), none]) ⟨rfl, ⟨rfl, ⟨rfl, ⟨rfl, ⟨rfl, ⟨rfl, ⟨rfl, trivial⟩⟩⟩⟩⟩⟩⟩ (J_X12_feed_73 M x0 x1 x2 x3 x4 x5 x6 x4 K kk1 kk2_0)
        · skip
          refine s_run (b := [(.iload_n 3, 1), (.goto 17, 3)]) 73 [some (.inr (.inr x0)), some (.inl x1), some (.inl x2), some (.inl x3), some (.inl x4), some (.inl x5), some (.inl x6), none] [.inl x3] (by decide +kernel) rfl ?_
          exact s_lsub (ls' := [some (.inr (.inr x0)), some (.inl x1), some (.inl x2), some (.inl x3), some (.inl x4), some (.inl x5), some (.inl x6), none]) ⟨rfl, ⟨rfl, ⟨rfl, ⟨rfl, ⟨rfl, ⟨rfl, ⟨rfl, trivial⟩⟩⟩⟩⟩⟩⟩ (J_X12_feed_73 M x0 x1 x2 x3 x4 x5 x6 x3 K kk1 kk2_0)
      · skip
        refine s_run (b := [(.iload_n 2, 1), (.goto 28, 3)]) 73 [some (.inr (.inr x0)), some (.inl x1), some (.inl x2), some (.inl x3), some (.inl x4), some (.inl x5), some (.inl x6), none] [.inl x2] (by decide +kernel) rfl ?_
        exact s_lsub (ls' := [some (.inr (.inr x0)), some (.inl x1), some (.inl x2), some (.inl x3), some (.inl x4), some (.inl x5), some (.inl x6), none]) ⟨rfl, ⟨rfl, ⟨rfl, ⟨rfl, ⟨rfl, ⟨rfl, ⟨rfl, trivial⟩⟩⟩⟩⟩⟩⟩ (J_X12_feed_73 M x0 x1 x2 x3 x4 x5 x6 x2 K kk1 kk2_0)
    · skip
      refine s_run (b := [(.iload_n 1, 1), (.goto 39, 3)]) 73 [some (.inr (.inr x0)), some (.inl x1), some (.inl x2), some (.inl x3), some (.inl x4), some (.inl x5), some (.inl x6), none] [.inl x1] (by decide +kernel) rfl ?_
      exact s_lsub (ls' := [some (.inr (.inr x0)), some (.inl x1), some (.inl x2), some (.inl x3), some (.inl x4), some (.inl x5), some (.inl x6), none]) ⟨rfl, ⟨rfl, ⟨rfl, ⟨rfl, ⟨rfl, ⟨rfl, ⟨rfl, trivial⟩⟩⟩⟩⟩⟩⟩ (J_X12_feed_73 M x0 x1 x2 x3 x4 x5 x6 x1 K kk1 kk2_0)
set_option maxRecDepth 20000 in
theorem L_X12_feed_20 {l : Launch} {G : Gv} {lim : Nat × Nat} (M : Mem) (x0 : Nat) (x1 : Int32) (x2 : Int32) (x3 : Int32) (x4 : Int32) (x5 : Int32) (x6 : Int32) (K : ((Mem)) → Option (Option Value × Mem)) (kk2_0 : ∀ r : Mem, SimR l G Y_X12_feed lim (K r) 122 [some (.inr (.inr x0)), none, none, none, none, none, none, none] [] r) : Sim l G Y_X12_feed lim (f_X12_feed_L20 M x0 x1 x2 x3 x4 x5 x6) K 20 [some (.inr (.inr x0)), some (.inl x1), some (.inl x2), some (.inl x3), some (.inl x4), some (.inl x5), some (.inl x6), none] [] M :=
  s_iter (f := fun s : Int32 × Mem => f_X12_feed_B20 s.2 x0 x1 x2 x3 x4 x5 s.1) (hd := 20) (cl := fun s => [some (.inr (.inr x0)), some (.inl x1), some (.inl x2), some (.inl x3), some (.inl x4), some (.inl x5), some (.inl s.1), none]) (cm := fun s => s.2) (xp := fun _ => 122) (xl := fun r => [some (.inr (.inr x0)), none, none, none, none, none, none, none]) (xm := fun r => r) (fun s K h1 h2 => B_X12_feed_20 s.2 x0 x1 x2 x3 x4 x5 s.1 K (fun a6 a_ => h1 (a6, a_)) (fun a_ => h2 a_)) 1048576 (x6, M) K kk2_0
def f_X12_feed (M : Mem) (x0 : Nat) (x1 : Int32) (x2 : Int32) (x3 : Int32) (x4 : Int32) (x5 : Int32) : Option (Int32 × Mem) :=
  (gR M 12 x0 0).bind fun v1 =>
  (aI M 0 v1 (4 : Int32)).bind fun v2 =>
  (if (v2 + (20 : Int32)) ≤ (600 : Int32) then
    (f_X12_feed_L20 M x0 x1 x2 x3 x4 x5 (0 : Int32)).bind fun r4 =>
    (gR r4 12 x0 0).bind fun v5 =>
    (aI r4 0 v5 (4 : Int32)).bind fun v6 =>
    some (v6, r4)
  else
    some ((-1 : Int32), M))
set_option maxRecDepth 20000 in
theorem S_X12_feed {l : Launch} {G : Gv} {lim : Nat × Nat} (M : Mem) (x0 : Nat) (x1 : Int32) (x2 : Int32) (x3 : Int32) (x4 : Int32) (x5 : Int32) : Sim l G Y_X12_feed lim (f_X12_feed M x0 x1 x2 x3 x4 x5) (fun z => some (some (.int z.1), z.2)) 0 [some (.inr (.inr x0)), some (.inl x1), some (.inl x2), some (.inl x3), some (.inl x4), some (.inl x5), none, none] [] M := by
  unfold f_X12_feed
  refine s_run (b := [(.aload_n 0, 1)]) 1 [some (.inr (.inr x0)), some (.inl x1), some (.inl x2), some (.inl x3), some (.inl x4), some (.inl x5), none, none] [.inr (.inr x0)] (by decide +kernel) rfl ?_
  refine s_gR fl_12_7 rfl (by decide +kernel) (fun v1 => ?_)
  refine s_run (b := [(.iconst 4, 1)]) 5 [some (.inr (.inr x0)), some (.inl x1), some (.inl x2), some (.inl x3), some (.inl x4), some (.inl x5), none, none] [.inl (4 : Int32), .inr (.inr v1)] (by decide +kernel) rfl ?_
  refine s_ia (by decide +kernel) (fun v2 => ?_)
  refine s_run (b := [(.bipush 20, 2), (.iadd, 1), (.sipush 600, 3)]) 12 [some (.inr (.inr x0)), some (.inl x1), some (.inl x2), some (.inl x3), some (.inl x4), some (.inl x5), none, none] [.inl (600 : Int32), .inl (v2 + (20 : Int32))] (by decide +kernel) rfl ?_
  refine s_ic_le (tgt := 17) (off := 5) (by decide +kernel) (by decide) (fun h3 => ?_) (fun h3 => ?_)
  · skip
    refine s_run (b := [(.iconst 0, 1), (.istore 6, 2)]) 20 [some (.inr (.inr x0)), some (.inl x1), some (.inl x2), some (.inl x3), some (.inl x4), some (.inl x5), some (.inl (0 : Int32)), none] [] (by decide +kernel) rfl ?_
    refine s_lsub (ls' := [some (.inr (.inr x0)), some (.inl x1), some (.inl x2), some (.inl x3), some (.inl x4), some (.inl x5), some (.inl (0 : Int32)), none]) ⟨rfl, ⟨rfl, ⟨rfl, ⟨rfl, ⟨rfl, ⟨rfl, ⟨rfl, trivial⟩⟩⟩⟩⟩⟩⟩ ?_
    refine sim_bind (L_X12_feed_20 M x0 x1 x2 x3 x4 x5 (0 : Int32) _ (fun r4 => ?_))
    change Sim l G Y_X12_feed lim _ _ 122 [some (.inr (.inr x0)), none, none, none, none, none, none, none] [] r4
    refine s_run (b := [(.aload_n 0, 1)]) 123 [some (.inr (.inr x0)), none, none, none, none, none, none, none] [.inr (.inr x0)] (by decide +kernel) rfl ?_
    refine s_gR fl_12_7 rfl (by decide +kernel) (fun v5 => ?_)
    refine s_run (b := [(.iconst 4, 1)]) 127 [some (.inr (.inr x0)), none, none, none, none, none, none, none] [.inl (4 : Int32), .inr (.inr v5)] (by decide +kernel) rfl ?_
    refine s_ia (by decide +kernel) (fun v6 => ?_)
    exact s_iret (by decide +kernel) rfl
  · skip
    refine s_run (b := [(.iconst (-1), 1)]) 16 [some (.inr (.inr x0)), some (.inl x1), some (.inl x2), some (.inl x3), some (.inl x4), some (.inl x5), none, none] [.inl (-1 : Int32)] (by decide +kernel) rfl ?_
    exact s_iret (by decide +kernel) rfl
set_option maxRecDepth 20000 in
theorem c_X12_feed {l : Launch} {G : Gv} {M : Mem} {x0 : Nat} {x1 : Int32} {x2 : Int32} {x3 : Int32} {x4 : Int32} {x5 : Int32} {z : Int32 × Mem} (h : f_X12_feed M x0 x1 x2 x3 x4 x5 = some z) : MetS l G Y_X12_feed [.inr (.inr x0), .inl x1, .inl x2, .inl x3, .inl x4, .inl x5] M (some (.int z.1)) z.2 :=
  met_of (ls0 := [some (.inr (.inr x0)), some (.inl x1), some (.inl x2), some (.inl x3), some (.inl x4), some (.inl x5), none, none]) (by decide) rfl (lv_in (m := 2) rfl) (sl_le (Nat.le_of_ble_eq_true rfl)) (by rw [h]; rfl) (Or.inl ⟨rfl, rfl⟩) (S_X12_feed M x0 x1 x2 x3 x4 x5)
