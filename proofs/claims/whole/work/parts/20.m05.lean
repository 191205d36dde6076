def f_X6_init_main (lim : Nat × Nat) (M : Mem) (x0 : Nat) : Option (Mem) :=
  (ob M 6 x0).bind fun _ =>
  (newS lim M (.inr (0, 20))).bind fun z1 =>
  (pR z1.2 6 x0 2 z1.1).bind fun M2 =>
  (newS lim M2 (.inl 2)).bind fun z3 =>
  (ob z3.2 2 z3.1).bind fun _ => (rmS lim z3.2 15 184).bind fun _ => (f_X2_init z3.2 z3.1).bind fun M4 =>
  (pR M4 6 x0 3 z3.1).bind fun M5 =>
  (newS lim M5 (.inl 3)).bind fun z6 =>
  (ob z6.2 3 z6.1).bind fun _ => (rmS lim z6.2 0 0).bind fun _ => (f_X3_init z6.2 z6.1).bind fun M7 =>
  (pR M7 6 x0 4 z6.1).bind fun M8 =>
  (newS lim M8 (.inr (0, 5))).bind fun z9 =>
  (pR z9.2 6 x0 5 z9.1).bind fun M10 =>
  (newS lim M10 (.inr (0, 2816))).bind fun z11 =>
  (pR z11.2 6 x0 6 z11.1).bind fun M12 =>
  (newS lim M12 (.inr (0, 168))).bind fun z13 =>
  (pR z13.2 6 x0 7 z13.1).bind fun M14 =>
  some M14
set_option maxRecDepth 20000 in
theorem S_X6_init {l : Launch} {G : Gv} {lim : Nat × Nat} (M : Mem) (x0 : Nat) : Sim l G Y_X6_init lim (f_X6_init_main lim M x0) (fun z => some (none, z)) 0 [some (.inr (.inr x0))] [] M := by
  unfold f_X6_init_main
  refine s_run (b := [(.aload_n 0, 1)]) 1 [some (.inr (.inr x0))] [.inr (.inr x0)] (by decide +kernel) rfl ?_
  refine s_objI q427 q27 q28 ⟨Nat.le_of_ble_eq_true rfl, Nat.le_of_ble_eq_true rfl⟩ (by decide +kernel) ?_
  refine s_run (b := [(.aload_n 0, 1), (.bipush 20, 2)]) 7 [some (.inr (.inr x0))] [.inl (20 : Int32), .inr (.inr x0)] (by decide +kernel) rfl ?_
  refine s_newaZ .int (t := 0) (by decide) rfl q131 (by decide) (by decide +kernel) (fun z1 => ?_)
  refine s_pR fl_6_9 (Or.inr ⟨_, rfl⟩) (Or.inr ⟨rfl, _, _, rfl⟩) rfl (by decide +kernel) (fun M2 => ?_)
  refine s_run (b := [(.aload_n 0, 1)]) 13 [some (.inr (.inr x0))] [.inr (.inr x0)] (by decide +kernel) rfl ?_
  refine s_newZ (c := 2) rfl q428 q290 q8 (by decide +kernel) (fun z3 => ?_)
  refine s_run (b := [(.dup, 1)]) 17 [some (.inr (.inr x0))] [.inr (.inr z3.1), .inr (.inr z3.1), .inr (.inr x0)] (by decide +kernel) rfl ?_
  refine s_cIN (Z := Y_X2_init) (vs := []) (st := [.inr (.inr z3.1), .inr (.inr x0)]) zk_X2_init ⟨rfl, q292, rfl⟩ (List.mem_of_getElem? (i := 14) rfl) ⟨by decide, by decide⟩ rfl rfl (Nat.le_of_ble_eq_true rfl) (by decide +kernel) (fun z hz => c_X2_init hz) (fun M4 => ?_)
  refine s_pR fl_6_18 (Or.inl ⟨_, rfl⟩) (Or.inr ⟨rfl, _, _, rfl⟩) rfl (by decide +kernel) (fun M5 => ?_)
  refine s_run (b := [(.aload_n 0, 1)]) 24 [some (.inr (.inr x0))] [.inr (.inr x0)] (by decide +kernel) rfl ?_
  refine s_newZ (c := 3) rfl q430 q263 q7 (by decide +kernel) (fun z6 => ?_)
  refine s_run (b := [(.dup, 1)]) 28 [some (.inr (.inr x0))] [.inr (.inr z6.1), .inr (.inr z6.1), .inr (.inr x0)] (by decide +kernel) rfl ?_
  refine s_cIN (Z := Y_X3_init) (vs := []) (st := [.inr (.inr z6.1), .inr (.inr x0)]) zk_X3_init ⟨rfl, q265, rfl⟩ (List.mem_of_getElem? (i := 15) rfl) ⟨by decide, by decide⟩ rfl rfl (Nat.le_of_ble_eq_true rfl) (by decide +kernel) (fun z hz => c_X3_init hz) (fun M7 => ?_)
  refine s_pR fl_6_25 (Or.inl ⟨_, rfl⟩) (Or.inr ⟨rfl, _, _, rfl⟩) rfl (by decide +kernel) (fun M8 => ?_)
  refine s_run (b := [(.aload_n 0, 1), (.iconst 5, 1)]) 36 [some (.inr (.inr x0))] [.inl (5 : Int32), .inr (.inr x0)] (by decide +kernel) rfl ?_
  refine s_newaZ .int (t := 0) (by decide) rfl q131 (by decide) (by decide +kernel) (fun z9 => ?_)
  refine s_pR fl_6_29 (Or.inr ⟨_, rfl⟩) (Or.inr ⟨rfl, _, _, rfl⟩) rfl (by decide +kernel) (fun M10 => ?_)
  refine s_run (b := [(.aload_n 0, 1), (.sipush 2816, 3)]) 45 [some (.inr (.inr x0))] [.inl (2816 : Int32), .inr (.inr x0)] (by decide +kernel) rfl ?_
  refine s_newaZ .int (t := 0) (by decide) rfl q131 (by decide) (by decide +kernel) (fun z11 => ?_)
  refine s_pR fl_6_32 (Or.inr ⟨_, rfl⟩) (Or.inr ⟨rfl, _, _, rfl⟩) rfl (by decide +kernel) (fun M12 => ?_)
  refine s_run (b := [(.aload_n 0, 1), (.sipush 168, 3)]) 54 [some (.inr (.inr x0))] [.inl (168 : Int32), .inr (.inr x0)] (by decide +kernel) rfl ?_
  refine s_newaZ .int (t := 0) (by decide) rfl q131 (by decide) (by decide +kernel) (fun z13 => ?_)
  refine s_pR fl_6_35 (Or.inr ⟨_, rfl⟩) (Or.inr ⟨rfl, _, _, rfl⟩) rfl (by decide +kernel) (fun M14 => ?_)
  exact s_vret (by decide +kernel) rfl
def f_X6_init (M : Mem) (x0 : Nat) : Option Mem := (f_X6_init_main (M.2.2.2.length + 21, ssum M.2.2.2 + 3209) M x0).bind (fun z => rtS (M.2.2.2.length + 21, ssum M.2.2.2 + 3209) z)
set_option maxRecDepth 20000 in
theorem c_X6_init {l : Launch} {G : Gv} {M : Mem} {x0 : Nat} {z : Mem} (h : f_X6_init M x0 = some z) : MetS l G Y_X6_init [.inr (.inr x0)] M none z := by
  obtain ⟨z1, h1, h2⟩ := Option.bind_eq_some_iff.mp h
  obtain ⟨h3, h2⟩ := ifs h2; cases h2
  exact met_of (ls0 := [some (.inr (.inr x0))]) (by decide) rfl (lv_in (m := 0) rfl) (sl_le (Nat.le_of_ble_eq_true rfl)) (show (f_X6_init_main (M.2.2.2.length + 21, ssum M.2.2.2 + 3209) M x0).bind _ = _ by rw [h1]; rfl) (Or.inr h3) (S_X6_init M x0)
def f_X1_init_main (lim : Nat × Nat) (M : Mem) (x0 : Nat) : Option (Mem) :=
  (ob M 1 x0).bind fun _ =>
  (newS lim M (.inr (0, 40))).bind fun z1 =>
  (pR z1.2 1 x0 1 z1.1).bind fun M2 =>
  (newS lim M2 (.inr (0, 40))).bind fun z3 =>
  (pR z3.2 1 x0 2 z3.1).bind fun M4 =>
  some M4
set_option maxRecDepth 20000 in
theorem S_X1_init {l : Launch} {G : Gv} {lim : Nat × Nat} (M : Mem) (x0 : Nat) : Sim l G Y_X1_init lim (f_X1_init_main lim M x0) (fun z => some (none, z)) 0 [some (.inr (.inr x0))] [] M := by
  unfold f_X1_init_main
  refine s_run (b := [(.aload_n 0, 1)]) 1 [some (.inr (.inr x0))] [.inr (.inr x0)] (by decide +kernel) rfl ?_
  refine s_objI q136 q27 q28 ⟨Nat.le_of_ble_eq_true rfl, Nat.le_of_ble_eq_true rfl⟩ (by decide +kernel) ?_
  refine s_run (b := [(.aload_n 0, 1), (.bipush 40, 2)]) 7 [some (.inr (.inr x0))] [.inl (40 : Int32), .inr (.inr x0)] (by decide +kernel) rfl ?_
  refine s_newaZ .int (t := 0) (by decide) rfl q131 (by decide) (by decide +kernel) (fun z1 => ?_)
  refine s_pR fl_1_9 (Or.inr ⟨_, rfl⟩) (Or.inr ⟨rfl, _, _, rfl⟩) rfl (by decide +kernel) (fun M2 => ?_)
  refine s_run (b := [(.aload_n 0, 1), (.bipush 40, 2)]) 15 [some (.inr (.inr x0))] [.inl (40 : Int32), .inr (.inr x0)] (by decide +kernel) rfl ?_
  refine s_newaZ .int (t := 0) (by decide) rfl q131 (by decide) (by decide +kernel) (fun z3 => ?_)
  refine s_pR fl_1_15 (Or.inr ⟨_, rfl⟩) (Or.inr ⟨rfl, _, _, rfl⟩) rfl (by decide +kernel) (fun M4 => ?_)
  exact s_vret (by decide +kernel) rfl
def f_X1_init (M : Mem) (x0 : Nat) : Option Mem := (f_X1_init_main (M.2.2.2.length + 2, ssum M.2.2.2 + 80) M x0).bind (fun z => rtS (M.2.2.2.length + 2, ssum M.2.2.2 + 80) z)
set_option maxRecDepth 20000 in
theorem c_X1_init {l : Launch} {G : Gv} {M : Mem} {x0 : Nat} {z : Mem} (h : f_X1_init M x0 = some z) : MetS l G Y_X1_init [.inr (.inr x0)] M none z := by
  obtain ⟨z1, h1, h2⟩ := Option.bind_eq_some_iff.mp h
  obtain ⟨h3, h2⟩ := ifs h2; cases h2
  exact met_of (ls0 := [some (.inr (.inr x0))]) (by decide) rfl (lv_in (m := 0) rfl) (sl_le (Nat.le_of_ble_eq_true rfl)) (show (f_X1_init_main (M.2.2.2.length + 2, ssum M.2.2.2 + 80) M x0).bind _ = _ by rw [h1]; rfl) (Or.inr h3) (S_X1_init M x0)
def f_X4_init_main (lim : Nat × Nat) (M : Mem) (x0 : Nat) : Option (Mem) :=
  (ob M 4 x0).bind fun _ =>
  (newS lim M (.inr (0, 8))).bind fun z1 =>
  (pR z1.2 4 x0 1 z1.1).bind fun M2 =>
  (newS lim M2 (.inr (0, 8))).bind fun z3 =>
  (pR z3.2 4 x0 2 z3.1).bind fun M4 =>
  (newS lim M4 (.inr (0, 8))).bind fun z5 =>
  (pR z5.2 4 x0 3 z5.1).bind fun M6 =>
  some M6
set_option maxRecDepth 20000 in
theorem S_X4_init {l : Launch} {G : Gv} {lim : Nat × Nat} (M : Mem) (x0 : Nat) : Sim l G Y_X4_init lim (f_X4_init_main lim M x0) (fun z => some (none, z)) 0 [some (.inr (.inr x0))] [] M := by
  unfold f_X4_init_main
  refine s_run (b := [(.aload_n 0, 1)]) 1 [some (.inr (.inr x0))] [.inr (.inr x0)] (by decide +kernel) rfl ?_
  refine s_objI q156 q27 q28 ⟨Nat.le_of_ble_eq_true rfl, Nat.le_of_ble_eq_true rfl⟩ (by decide +kernel) ?_
  refine s_run (b := [(.aload_n 0, 1), (.bipush 8, 2)]) 7 [some (.inr (.inr x0))] [.inl (8 : Int32), .inr (.inr x0)] (by decide +kernel) rfl ?_
  refine s_newaZ .int (t := 0) (by decide) rfl q131 (by decide) (by decide +kernel) (fun z1 => ?_)
  refine s_pR fl_4_9 (Or.inr ⟨_, rfl⟩) (Or.inr ⟨rfl, _, _, rfl⟩) rfl (by decide +kernel) (fun M2 => ?_)
  refine s_run (b := [(.aload_n 0, 1), (.bipush 8, 2)]) 15 [some (.inr (.inr x0))] [.inl (8 : Int32), .inr (.inr x0)] (by decide +kernel) rfl ?_
  refine s_newaZ .int (t := 0) (by decide) rfl q131 (by decide) (by decide +kernel) (fun z3 => ?_)
  refine s_pR fl_4_15 (Or.inr ⟨_, rfl⟩) (Or.inr ⟨rfl, _, _, rfl⟩) rfl (by decide +kernel) (fun M4 => ?_)
  refine s_run (b := [(.aload_n 0, 1), (.bipush 8, 2)]) 23 [some (.inr (.inr x0))] [.inl (8 : Int32), .inr (.inr x0)] (by decide +kernel) rfl ?_
  refine s_newaZ .int (t := 0) (by decide) rfl q131 (by decide) (by decide +kernel) (fun z5 => ?_)
  refine s_pR fl_4_18 (Or.inr ⟨_, rfl⟩) (Or.inr ⟨rfl, _, _, rfl⟩) rfl (by decide +kernel) (fun M6 => ?_)
  exact s_vret (by decide +kernel) rfl
def f_X4_init (M : Mem) (x0 : Nat) : Option Mem := (f_X4_init_main (M.2.2.2.length + 3, ssum M.2.2.2 + 24) M x0).bind (fun z => rtS (M.2.2.2.length + 3, ssum M.2.2.2 + 24) z)
set_option maxRecDepth 20000 in
theorem c_X4_init {l : Launch} {G : Gv} {M : Mem} {x0 : Nat} {z : Mem} (h : f_X4_init M x0 = some z) : MetS l G Y_X4_init [.inr (.inr x0)] M none z := by
  obtain ⟨z1, h1, h2⟩ := Option.bind_eq_some_iff.mp h
  obtain ⟨h3, h2⟩ := ifs h2; cases h2
  exact met_of (ls0 := [some (.inr (.inr x0))]) (by decide) rfl (lv_in (m := 0) rfl) (sl_le (Nat.le_of_ble_eq_true rfl)) (show (f_X4_init_main (M.2.2.2.length + 3, ssum M.2.2.2 + 24) M x0).bind _ = _ by rw [h1]; rfl) (Or.inr h3) (S_X4_init M x0)
def f_X7_init_main (lim : Nat × Nat) (M : Mem) (x0 : Nat) : Option (Mem) :=
  (ob M 7 x0).bind fun _ =>
  (newS lim M (.inl 5)).bind fun z1 =>
  (ob z1.2 5 z1.1).bind fun _ => (rmS lim z1.2 10 142).bind fun _ => (f_X5_init z1.2 z1.1).bind fun M2 =>
  (pR M2 7 x0 0 z1.1).bind fun M3 =>
  (newS lim M3 (.inl 1)).bind fun z4 =>
  (ob z4.2 1 z4.1).bind fun _ => (rmS lim z4.2 2 80).bind fun _ => (f_X1_init z4.2 z4.1).bind fun M5 =>
  (pR M5 7 x0 1 z4.1).bind fun M6 =>
  (newS lim M6 (.inl 4)).bind fun z7 =>
  (ob z7.2 4 z7.1).bind fun _ => (rmS lim z7.2 3 24).bind fun _ => (f_X4_init z7.2 z7.1).bind fun M8 =>
  (pR M8 7 x0 2 z7.1).bind fun M9 =>
  (pI M9 7 x0 4 (-1 : Int32)).bind fun M10 =>
  (newS lim M10 (.inr (1, 0))).bind fun z11 =>
  (pR z11.2 7 x0 5 z11.1).bind fun M12 =>
  (newS lim M12 (.inr (0, 4))).bind fun z13 =>
  (pR z13.2 7 x0 6 z13.1).bind fun M14 =>
  some M14
set_option maxRecDepth 20000 in
theorem S_X7_init {l : Launch} {G : Gv} {lim : Nat × Nat} (M : Mem) (x0 : Nat) : Sim l G Y_X7_init lim (f_X7_init_main lim M x0) (fun z => some (none, z)) 0 [some (.inr (.inr x0))] [] M := by
  unfold f_X7_init_main
  refine s_run (b := [(.aload_n 0, 1)]) 1 [some (.inr (.inr x0))] [.inr (.inr x0)] (by decide +kernel) rfl ?_
  refine s_objI q212 q27 q28 ⟨Nat.le_of_ble_eq_true rfl, Nat.le_of_ble_eq_true rfl⟩ (by decide +kernel) ?_
  refine s_run (b := [(.aload_n 0, 1)]) 5 [some (.inr (.inr x0))] [.inr (.inr x0)] (by decide +kernel) rfl ?_
  refine s_newZ (c := 5) rfl q213 q41 q3 (by decide +kernel) (fun z1 => ?_)
  refine s_run (b := [(.dup, 1)]) 9 [some (.inr (.inr x0))] [.inr (.inr z1.1), .inr (.inr z1.1), .inr (.inr x0)] (by decide +kernel) rfl ?_
  refine s_cI (Z := Y_X5_init) (vs := []) (st := [.inr (.inr z1.1), .inr (.inr x0)]) zk_X5_init ⟨rfl, q43, rfl⟩ q214 ⟨by decide, by decide⟩ rfl rfl (Nat.le_of_ble_eq_true rfl) (by decide +kernel) (fun z hz => c_X5_init hz) (fun M2 => ?_)
  refine s_pR fl_7_12 (Or.inl ⟨_, rfl⟩) (Or.inr ⟨rfl, _, _, rfl⟩) rfl (by decide +kernel) (fun M3 => ?_)
  refine s_run (b := [(.aload_n 0, 1)]) 16 [some (.inr (.inr x0))] [.inr (.inr x0)] (by decide +kernel) rfl ?_
  refine s_newZ (c := 1) rfl q215 q132 q4 (by decide +kernel) (fun z4 => ?_)
  refine s_run (b := [(.dup, 1)]) 20 [some (.inr (.inr x0))] [.inr (.inr z4.1), .inr (.inr z4.1), .inr (.inr x0)] (by decide +kernel) rfl ?_
  refine s_cIN (Z := Y_X1_init) (vs := []) (st := [.inr (.inr z4.1), .inr (.inr x0)]) zk_X1_init ⟨rfl, q134, rfl⟩ (List.mem_of_getElem? (i := 3) rfl) ⟨by decide, by decide⟩ rfl rfl (Nat.le_of_ble_eq_true rfl) (by decide +kernel) (fun z hz => c_X1_init hz) (fun M5 => ?_)
  refine s_pR fl_7_21 (Or.inl ⟨_, rfl⟩) (Or.inr ⟨rfl, _, _, rfl⟩) rfl (by decide +kernel) (fun M6 => ?_)
  refine s_run (b := [(.aload_n 0, 1)]) 27 [some (.inr (.inr x0))] [.inr (.inr x0)] (by decide +kernel) rfl ?_
  refine s_newZ (c := 4) rfl q217 q152 q5 (by decide +kernel) (fun z7 => ?_)
  refine s_run (b := [(.dup, 1)]) 31 [some (.inr (.inr x0))] [.inr (.inr z7.1), .inr (.inr z7.1), .inr (.inr x0)] (by decide +kernel) rfl ?_
  refine s_cIN (Z := Y_X4_init) (vs := []) (st := [.inr (.inr z7.1), .inr (.inr x0)]) zk_X4_init ⟨rfl, q154, rfl⟩ (List.mem_of_getElem? (i := 4) rfl) ⟨by decide, by decide⟩ rfl rfl (Nat.le_of_ble_eq_true rfl) (by decide +kernel) (fun z hz => c_X4_init hz) (fun M8 => ?_)
  refine s_pR fl_7_28 (Or.inl ⟨_, rfl⟩) (Or.inr ⟨rfl, _, _, rfl⟩) rfl (by decide +kernel) (fun M9 => ?_)
  refine s_run (b := [(.aload_n 0, 1), (.iconst (-1), 1)]) 39 [some (.inr (.inr x0))] [.inl (-1 : Int32), .inr (.inr x0)] (by decide +kernel) rfl ?_
  refine s_pI fl_7_32 (Or.inl rfl) rfl (by decide +kernel) (fun M10 => ?_)
  refine s_run (b := [(.aload_n 0, 1), (.iconst 0, 1)]) 44 [some (.inr (.inr x0))] [.inl (0 : Int32), .inr (.inr x0)] (by decide +kernel) rfl ?_
  refine s_newaZ .byte (t := 1) (by decide) rfl q130 (by decide) (by decide +kernel) (fun z11 => ?_)
  refine s_pR fl_7_36 (Or.inr ⟨_, rfl⟩) (Or.inl rfl) rfl (by decide +kernel) (fun M12 => ?_)
  refine s_run (b := [(.aload_n 0, 1), (.iconst 4, 1)]) 51 [some (.inr (.inr x0))] [.inl (4 : Int32), .inr (.inr x0)] (by decide +kernel) rfl ?_
  refine s_newaZ .int (t := 0) (by decide) rfl q131 (by decide) (by decide +kernel) (fun z13 => ?_)
  refine s_pR fl_7_40 (Or.inr ⟨_, rfl⟩) (Or.inr ⟨rfl, _, _, rfl⟩) rfl (by decide +kernel) (fun M14 => ?_)
  exact s_vret (by decide +kernel) rfl
def f_X7_init (M : Mem) (x0 : Nat) : Option Mem := (f_X7_init_main (M.2.2.2.length + 20, ssum M.2.2.2 + 272) M x0).bind (fun z => rtS (M.2.2.2.length + 20, ssum M.2.2.2 + 272) z)
set_option maxRecDepth 20000 in
theorem c_X7_init {l : Launch} {G : Gv} {M : Mem} {x0 : Nat} {z : Mem} (h : f_X7_init M x0 = some z) : MetS l G Y_X7_init [.inr (.inr x0)] M none z := by
  obtain ⟨z1, h1, h2⟩ := Option.bind_eq_some_iff.mp h
  obtain ⟨h3, h2⟩ := ifs h2; cases h2
  exact met_of (ls0 := [some (.inr (.inr x0))]) (by decide) rfl (lv_in (m := 0) rfl) (sl_le (Nat.le_of_ble_eq_true rfl)) (show (f_X7_init_main (M.2.2.2.length + 20, ssum M.2.2.2 + 272) M x0).bind _ = _ by rw [h1]; rfl) (Or.inr h3) (S_X7_init M x0)
def f_X8_init_main (lim : Nat × Nat) (M : Mem) (x0 : Nat) : Option (Mem) :=
  (ob M 8 x0).bind fun _ =>
  (newS lim M (.inr (0, 256))).bind fun z1 =>
  (pR z1.2 8 x0 1 z1.1).bind fun M2 =>
  (newS lim M2 (.inl 5)).bind fun z3 =>
  (ob z3.2 5 z3.1).bind fun _ => (rmS lim z3.2 10 142).bind fun _ => (f_X5_init z3.2 z3.1).bind fun M4 =>
  (pR M4 8 x0 2 z3.1).bind fun M5 =>
  (newS lim M5 (.inl 3)).bind fun z6 =>
  (ob z6.2 3 z6.1).bind fun _ => (rmS lim z6.2 0 0).bind fun _ => (f_X3_init z6.2 z6.1).bind fun M7 =>
  (pR M7 8 x0 3 z6.1).bind fun M8 =>
  (newS lim M8 (.inr (0, 9))).bind fun z9 =>
  (pR z9.2 8 x0 4 z9.1).bind fun M10 =>
  some M10
set_option maxRecDepth 20000 in
theorem S_X8_init {l : Launch} {G : Gv} {lim : Nat × Nat} (M : Mem) (x0 : Nat) : Sim l G Y_X8_init lim (f_X8_init_main lim M x0) (fun z => some (none, z)) 0 [some (.inr (.inr x0))] [] M := by
  unfold f_X8_init_main
  refine s_run (b := [(.aload_n 0, 1)]) 1 [some (.inr (.inr x0))] [.inr (.inr x0)] (by decide +kernel) rfl ?_
  refine s_objI q401 q27 q28 ⟨Nat.le_of_ble_eq_true rfl, Nat.le_of_ble_eq_true rfl⟩ (by decide +kernel) ?_
  refine s_run (b := [(.aload_n 0, 1), (.sipush 256, 3)]) 8 [some (.inr (.inr x0))] [.inl (256 : Int32), .inr (.inr x0)] (by decide +kernel) rfl ?_
  refine s_newaZ .int (t := 0) (by decide) rfl q131 (by decide) (by decide +kernel) (fun z1 => ?_)
  refine s_pR fl_8_9 (Or.inr ⟨_, rfl⟩) (Or.inr ⟨rfl, _, _, rfl⟩) rfl (by decide +kernel) (fun M2 => ?_)
  refine s_run (b := [(.aload_n 0, 1)]) 14 [some (.inr (.inr x0))] [.inr (.inr x0)] (by decide +kernel) rfl ?_
  refine s_newZ (c := 5) rfl q402 q41 q3 (by decide +kernel) (fun z3 => ?_)
  refine s_run (b := [(.dup, 1)]) 18 [some (.inr (.inr x0))] [.inr (.inr z3.1), .inr (.inr z3.1), .inr (.inr x0)] (by decide +kernel) rfl ?_
  refine s_cI (Z := Y_X5_init) (vs := []) (st := [.inr (.inr z3.1), .inr (.inr x0)]) zk_X5_init ⟨rfl, q43, rfl⟩ q403 ⟨by decide, by decide⟩ rfl rfl (Nat.le_of_ble_eq_true rfl) (by decide +kernel) (fun z hz => c_X5_init hz) (fun M4 => ?_)
  refine s_pR fl_8_18 (Or.inl ⟨_, rfl⟩) (Or.inr ⟨rfl, _, _, rfl⟩) rfl (by decide +kernel) (fun M5 => ?_)
  refine s_run (b := [(.aload_n 0, 1)]) 25 [some (.inr (.inr x0))] [.inr (.inr x0)] (by decide +kernel) rfl ?_
  refine s_newZ (c := 3) rfl q404 q263 q7 (by decide +kernel) (fun z6 => ?_)
  refine s_run (b := [(.dup, 1)]) 29 [some (.inr (.inr x0))] [.inr (.inr z6.1), .inr (.inr z6.1), .inr (.inr x0)] (by decide +kernel) rfl ?_
  refine s_cIN (Z := Y_X3_init) (vs := []) (st := [.inr (.inr z6.1), .inr (.inr x0)]) zk_X3_init ⟨rfl, q265, rfl⟩ (List.mem_of_getElem? (i := 12) rfl) ⟨by decide, by decide⟩ rfl rfl (Nat.le_of_ble_eq_true rfl) (by decide +kernel) (fun z hz => c_X3_init hz) (fun M7 => ?_)
  refine s_pR fl_8_25 (Or.inl ⟨_, rfl⟩) (Or.inr ⟨rfl, _, _, rfl⟩) rfl (by decide +kernel) (fun M8 => ?_)
  refine s_run (b := [(.aload_n 0, 1), (.bipush 9, 2)]) 38 [some (.inr (.inr x0))] [.inl (9 : Int32), .inr (.inr x0)] (by decide +kernel) rfl ?_
  refine s_newaZ .int (t := 0) (by decide) rfl q131 (by decide) (by decide +kernel) (fun z9 => ?_)
  refine s_pR fl_8_29 (Or.inr ⟨_, rfl⟩) (Or.inr ⟨rfl, _, _, rfl⟩) rfl (by decide +kernel) (fun M10 => ?_)
  exact s_vret (by decide +kernel) rfl
def f_X8_init (M : Mem) (x0 : Nat) : Option Mem := (f_X8_init_main (M.2.2.2.length + 14, ssum M.2.2.2 + 425) M x0).bind (fun z => rtS (M.2.2.2.length + 14, ssum M.2.2.2 + 425) z)
set_option maxRecDepth 20000 in
theorem c_X8_init {l : Launch} {G : Gv} {M : Mem} {x0 : Nat} {z : Mem} (h : f_X8_init M x0 = some z) : MetS l G Y_X8_init [.inr (.inr x0)] M none z := by
  obtain ⟨z1, h1, h2⟩ := Option.bind_eq_some_iff.mp h
  obtain ⟨h3, h2⟩ := ifs h2; cases h2
  exact met_of (ls0 := [some (.inr (.inr x0))]) (by decide) rfl (lv_in (m := 0) rfl) (sl_le (Nat.le_of_ble_eq_true rfl)) (show (f_X8_init_main (M.2.2.2.length + 14, ssum M.2.2.2 + 425) M x0).bind _ = _ by rw [h1]; rfl) (Or.inr h3) (S_X8_init M x0)
def f_X9_init_B51 (lim : Nat × Nat) (M : Mem) (x0 : Nat) (x1 : Int32) : Option ((Int32 × Mem) ⊕ ((Mem))) :=
  (if (2 : Int32) ≤ x1 then
    some (.inr M)
  else
    (gR M 9 x0 5).bind fun v2 =>
    (newS lim M (.inl 5)).bind fun z3 =>
    (ob z3.2 5 z3.1).bind fun _ => (rmS lim z3.2 10 142).bind fun _ => (f_X5_init z3.2 z3.1).bind fun M4 =>
    (sR M4 5 5 v2 x1 z3.1).bind fun M5 =>
    (gR M5 9 x0 6).bind fun v6 =>
    (newS lim M5 (.inl 1)).bind fun z7 =>
    (ob z7.2 1 z7.1).bind fun _ => (rmS lim z7.2 2 80).bind fun _ => (f_X1_init z7.2 z7.1).bind fun M8 =>
    (sR M8 6 1 v6 x1 z7.1).bind fun M9 =>
    (gR M9 9 x0 7).bind fun v10 =>
    (newS lim M9 (.inl 4)).bind fun z11 =>
    (ob z11.2 4 z11.1).bind fun _ => (rmS lim z11.2 3 24).bind fun _ => (f_X4_init z11.2 z11.1).bind fun M12 =>
    (sR M12 7 4 v10 x1 z11.1).bind fun M13 =>
    some (.inl ((x1 + (1 : Int32)), M13)))
def f_X9_init_L51 (lim : Nat × Nat) (M : Mem) (x0 : Nat) (x1 : Int32) : Option ((Mem)) := iter (fun s : Int32 × Mem => f_X9_init_B51 lim s.2 x0 s.1) 1048576 (x1, M)
set_option maxRecDepth 20000 in
theorem B_X9_init_51 {l : Launch} {G : Gv} {lim : Nat × Nat} (M : Mem) (x0 : Nat) (x1 : Int32) (K : (Int32 × Mem) ⊕ ((Mem)) → Option (Option Value × Mem)) (kk1 : ∀ (s1 : Int32) (s_ : Mem), SimR l G Y_X9_init lim (K (.inl (s1, s_))) 51 [some (.inr (.inr x0)), some (.inl s1)] [] s_) (kk2_0 : ∀ (s_ : Mem), SimR l G Y_X9_init lim (K (.inr s_)) 101 [none, none] [] s_) : Sim l G Y_X9_init lim (f_X9_init_B51 lim M x0 x1) K 51 [some (.inr (.inr x0)), some (.inl x1)] [] M := by
  unfold f_X9_init_B51
  refine s_run (b := [(.iload_n 1, 1), (.iconst 2, 1)]) 53 [some (.inr (.inr x0)), some (.inl x1)] [.inl (2 : Int32), .inl x1] (by decide +kernel) rfl ?_
  refine s_ic_ge (tgt := 101) (off := 48) (by decide +kernel) (by decide) (fun h1 => ?_) (fun h1 => ?_)
  · skip
    exact s_lsub (ls' := [none, none]) trivial (kk2_0 M)
  · skip
    refine s_run (b := [(.aload_n 0, 1)]) 57 [some (.inr (.inr x0)), some (.inl x1)] [.inr (.inr x0)] (by decide +kernel) rfl ?_
    refine s_gR fl_9_25 rfl (by decide +kernel) (fun v2 => ?_)
    refine s_run (b := [(.iload_n 1, 1)]) 61 [some (.inr (.inr x0)), some (.inl x1)] [.inl x1, .inr (.inr v2)] (by decide +kernel) rfl ?_
    refine s_newZ (c := 5) rfl q35 q41 q3 (by decide +kernel) (fun z3 => ?_)
    refine s_run (b := [(.dup, 1)]) 65 [some (.inr (.inr x0)), some (.inl x1)] [.inr (.inr z3.1), .inr (.inr z3.1), .inl x1, .inr (.inr v2)] (by decide +kernel) rfl ?_
    refine s_cI (Z := Y_X5_init) (vs := []) (st := [.inr (.inr z3.1), .inl x1, .inr (.inr v2)]) zk_X5_init ⟨rfl, q43, rfl⟩ q42 ⟨by decide, by decide⟩ rfl rfl (Nat.le_of_ble_eq_true rfl) (by decide +kernel) (fun z hz => c_X5_init hz) (fun M4 => ?_)
    refine s_as ⟨by decide, by decide⟩ rfl rfl (by decide +kernel) (fun M5 => ?_)
    refine s_run (b := [(.aload_n 0, 1)]) 70 [some (.inr (.inr x0)), some (.inl x1)] [.inr (.inr x0)] (by decide +kernel) rfl ?_
    refine s_gR fl_9_31 rfl (by decide +kernel) (fun v6 => ?_)
    refine s_run (b := [(.iload_n 1, 1)]) 74 [some (.inr (.inr x0)), some (.inl x1)] [.inl x1, .inr (.inr v6)] (by decide +kernel) rfl ?_
    refine s_newZ (c := 1) rfl q37 q132 q4 (by decide +kernel) (fun z7 => ?_)
    refine s_run (b := [(.dup, 1)]) 78 [some (.inr (.inr x0)), some (.inl x1)] [.inr (.inr z7.1), .inr (.inr z7.1), .inl x1, .inr (.inr v6)] (by decide +kernel) rfl ?_
    refine s_cIN (Z := Y_X1_init) (vs := []) (st := [.inr (.inr z7.1), .inl x1, .inr (.inr v6)]) zk_X1_init ⟨rfl, q134, rfl⟩ (List.mem_of_getElem? (i := 0) rfl) ⟨by decide, by decide⟩ rfl rfl (Nat.le_of_ble_eq_true rfl) (by decide +kernel) (fun z hz => c_X1_init hz) (fun M8 => ?_)
    refine s_as ⟨by decide, by decide⟩ rfl rfl (by decide +kernel) (fun M9 => ?_)
    refine s_run (b := [(.aload_n 0, 1)]) 83 [some (.inr (.inr x0)), some (.inl x1)] [.inr (.inr x0)] (by decide +kernel) rfl ?_
    refine s_gR fl_9_37 rfl (by decide +kernel) (fun v10 => ?_)
    refine s_run (b := [(.iload_n 1, 1)]) 87 [some (.inr (.inr x0)), some (.inl x1)] [.inl x1, .inr (.inr v10)] (by decide +kernel) rfl ?_
    refine s_newZ (c := 4) rfl q39 q152 q5 (by decide +kernel) (fun z11 => ?_)
    refine s_run (b := [(.dup, 1)]) 91 [some (.inr (.inr x0)), some (.inl x1)] [.inr (.inr z11.1), .inr (.inr z11.1), .inl x1, .inr (.inr v10)] (by decide +kernel) rfl ?_
    refine s_cIN (Z := Y_X4_init) (vs := []) (st := [.inr (.inr z11.1), .inl x1, .inr (.inr v10)]) zk_X4_init ⟨rfl, q154, rfl⟩ (List.mem_of_getElem? (i := 1) rfl) ⟨by decide, by decide⟩ rfl rfl (Nat.le_of_ble_eq_true rfl) (by decide +kernel) (fun z hz => c_X4_init hz) (fun M12 => ?_)
    refine s_as ⟨by decide, by decide⟩ rfl rfl (by decide +kernel) (fun M13 => ?_)
    refine s_run (b := [(.iinc 1 1, 3), (.goto (-47), 3)]) 51 [some (.inr (.inr x0)), some (.inl (x1 + (1 : Int32)))] [] (by decide +kernel) rfl ?_
    exact s_lsub (ls' := [some (.inr (.inr x0)), some (.inl (x1 + (1 : Int32)))]) ⟨rfl, ⟨rfl, trivial⟩⟩ (kk1 (x1 + (1 : Int32)) M13)
set_option maxRecDepth 20000 in
theorem L_X9_init_51 {l : Launch} {G : Gv} {lim : Nat × Nat} (M : Mem) (x0 : Nat) (x1 : Int32) (K : ((Mem)) → Option (Option Value × Mem)) (kk2_0 : ∀ r : Mem, SimR l G Y_X9_init lim (K r) 101 [none, none] [] r) : Sim l G Y_X9_init lim (f_X9_init_L51 lim M x0 x1) K 51 [some (.inr (.inr x0)), some (.inl x1)] [] M :=
  s_iter (f := fun s : Int32 × Mem => f_X9_init_B51 lim s.2 x0 s.1) (hd := 51) (cl := fun s => [some (.inr (.inr x0)), some (.inl s.1)]) (cm := fun s => s.2) (xp := fun _ => 101) (xl := fun r => [none, none]) (xm := fun r => r) (fun s K h1 h2 => B_X9_init_51 s.2 x0 s.1 K (fun a1 a_ => h1 (a1, a_)) (fun a_ => h2 a_)) 1048576 (x1, M) K kk2_0
def f_X9_init_main (lim : Nat × Nat) (M : Mem) (x0 : Nat) : Option (Mem) :=
  (ob M 9 x0).bind fun _ =>
  (newS lim M (.inr (1, 600))).bind fun z1 =>
  (pR z1.2 9 x0 0 z1.1).bind fun M2 =>
  (pI M2 9 x0 3 (-1 : Int32)).bind fun M3 =>
  (newS lim M3 (.inr (0, 3))).bind fun z4 =>
  (pR z4.2 9 x0 4 z4.1).bind fun M5 =>
  (newS lim M5 (.inr (5, 2))).bind fun z6 =>
  (pR z6.2 9 x0 5 z6.1).bind fun M7 =>
  (newS lim M7 (.inr (6, 2))).bind fun z8 =>
  (pR z8.2 9 x0 6 z8.1).bind fun M9 =>
  (newS lim M9 (.inr (7, 2))).bind fun z10 =>
  (pR z10.2 9 x0 7 z10.1).bind fun M11 =>
  (f_X9_init_L51 lim M11 x0 (0 : Int32)).bind fun r12 =>
  some r12
set_option maxRecDepth 20000 in
theorem S_X9_init {l : Launch} {G : Gv} {lim : Nat × Nat} (M : Mem) (x0 : Nat) : Sim l G Y_X9_init lim (f_X9_init_main lim M x0) (fun z => some (none, z)) 0 [some (.inr (.inr x0)), none] [] M := by
  unfold f_X9_init_main
  refine s_run (b := [(.aload_n 0, 1)]) 1 [some (.inr (.inr x0)), none] [.inr (.inr x0)] (by decide +kernel) rfl ?_
  refine s_objI q34 q27 q28 ⟨Nat.le_of_ble_eq_true rfl, Nat.le_of_ble_eq_true rfl⟩ (by decide +kernel) ?_
  refine s_run (b := [(.aload_n 0, 1), (.sipush 600, 3)]) 8 [some (.inr (.inr x0)), none] [.inl (600 : Int32), .inr (.inr x0)] (by decide +kernel) rfl ?_
  refine s_newaZ .byte (t := 1) (by decide) rfl q130 (by decide) (by decide +kernel) (fun z1 => ?_)
  refine s_pR fl_9_9 (Or.inr ⟨_, rfl⟩) (Or.inr ⟨rfl, _, _, rfl⟩) rfl (by decide +kernel) (fun M2 => ?_)
  refine s_run (b := [(.aload_n 0, 1), (.iconst (-1), 1)]) 15 [some (.inr (.inr x0)), none] [.inl (-1 : Int32), .inr (.inr x0)] (by decide +kernel) rfl ?_
  refine s_pI fl_9_15 (Or.inl rfl) rfl (by decide +kernel) (fun M3 => ?_)
  refine s_run (b := [(.aload_n 0, 1), (.iconst 3, 1)]) 20 [some (.inr (.inr x0)), none] [.inl (3 : Int32), .inr (.inr x0)] (by decide +kernel) rfl ?_
  refine s_newaZ .int (t := 0) (by decide) rfl q131 (by decide) (by decide +kernel) (fun z4 => ?_)
  refine s_pR fl_9_19 (Or.inr ⟨_, rfl⟩) (Or.inr ⟨rfl, _, _, rfl⟩) rfl (by decide +kernel) (fun M5 => ?_)
  refine s_run (b := [(.aload_n 0, 1), (.iconst 2, 1)]) 27 [some (.inr (.inr x0)), none] [.inl (2 : Int32), .inr (.inr x0)] (by decide +kernel) rfl ?_
  refine s_anewZ (t := 5) ⟨by decide, by decide⟩ rfl (by decide) q35 (by decide) (by decide +kernel) (fun z6 => ?_)
  refine s_pR fl_9_25 (Or.inr ⟨_, rfl⟩) (Or.inr ⟨rfl, _, _, rfl⟩) rfl (by decide +kernel) (fun M7 => ?_)
  refine s_run (b := [(.aload_n 0, 1), (.iconst 2, 1)]) 35 [some (.inr (.inr x0)), none] [.inl (2 : Int32), .inr (.inr x0)] (by decide +kernel) rfl ?_
  refine s_anewZ (t := 6) ⟨by decide, by decide⟩ rfl (by decide) q37 (by decide) (by decide +kernel) (fun z8 => ?_)
  refine s_pR fl_9_31 (Or.inr ⟨_, rfl⟩) (Or.inr ⟨rfl, _, _, rfl⟩) rfl (by decide +kernel) (fun M9 => ?_)
  refine s_run (b := [(.aload_n 0, 1), (.iconst 2, 1)]) 43 [some (.inr (.inr x0)), none] [.inl (2 : Int32), .inr (.inr x0)] (by decide +kernel) rfl ?_
  refine s_anewZ (t := 7) ⟨by decide, by decide⟩ rfl (by decide) q39 (by decide) (by decide +kernel) (fun z10 => ?_)
  refine s_pR fl_9_37 (Or.inr ⟨_, rfl⟩) (Or.inr ⟨rfl, _, _, rfl⟩) rfl (by decide +kernel) (fun M11 => ?_)
  refine s_run (b := [(.iconst 0, 1), (.istore_n 1, 1)]) 51 [some (.inr (.inr x0)), some (.inl (0 : Int32))] [] (by decide +kernel) rfl ?_
  refine s_lsub (ls' := [some (.inr (.inr x0)), some (.inl (0 : Int32))]) ⟨rfl, ⟨rfl, trivial⟩⟩ ?_
  refine sim_bind (L_X9_init_51 M11 x0 (0 : Int32) _ (fun r12 => ?_))
  change Sim l G Y_X9_init lim _ _ 101 [none, none] [] r12
  exact s_vret (by decide +kernel) rfl
def f_X9_init (M : Mem) (x0 : Nat) : Option Mem := (f_X9_init_main (M.2.2.2.length + 41, ssum M.2.2.2 + 1145) M x0).bind (fun z => rtS (M.2.2.2.length + 41, ssum M.2.2.2 + 1145) z)
set_option maxRecDepth 20000 in
theorem c_X9_init {l : Launch} {G : Gv} {M : Mem} {x0 : Nat} {z : Mem} (h : f_X9_init M x0 = some z) : MetS l G Y_X9_init [.inr (.inr x0)] M none z := by
  obtain ⟨z1, h1, h2⟩ := Option.bind_eq_some_iff.mp h
  obtain ⟨h3, h2⟩ := ifs h2; cases h2
  exact met_of (ls0 := [some (.inr (.inr x0)), none]) (by decide) rfl (lv_in (m := 1) rfl) (sl_le (Nat.le_of_ble_eq_true rfl)) (show (f_X9_init_main (M.2.2.2.length + 41, ssum M.2.2.2 + 1145) M x0).bind _ = _ by rw [h1]; rfl) (Or.inr h3) (S_X9_init M x0)
def f_X11_init_B109 (lim : Nat × Nat) (M : Mem) (x0 : Nat) (x1 : Int32) : Option ((Int32 × Mem) ⊕ ((Mem))) :=
  (if (3 : Int32) ≤ x1 then
    some (.inr M)
  else
    (gR M 11 x0 1).bind fun v2 =>
    (newS lim M (.inl 9)).bind fun z3 =>
    (ob z3.2 9 z3.1).bind fun _ => (rmS lim z3.2 41 1145).bind fun _ => (f_X9_init z3.2 z3.1).bind fun M4 =>
    (sR M4 4 9 v2 x1 z3.1).bind fun M5 =>
    some (.inl ((x1 + (1 : Int32)), M5)))
def f_X11_init_L109 (lim : Nat × Nat) (M : Mem) (x0 : Nat) (x1 : Int32) : Option ((Mem)) := iter (fun s : Int32 × Mem => f_X11_init_B109 lim s.2 x0 s.1) 1048576 (x1, M)
set_option maxRecDepth 20000 in
theorem B_X11_init_109 {l : Launch} {G : Gv} {lim : Nat × Nat} (M : Mem) (x0 : Nat) (x1 : Int32) (K : (Int32 × Mem) ⊕ ((Mem)) → Option (Option Value × Mem)) (kk1 : ∀ (s1 : Int32) (s_ : Mem), SimR l G Y_X11_init lim (K (.inl (s1, s_))) 109 [some (.inr (.inr x0)), some (.inl s1)] [] s_) (kk2_0 : ∀ (s_ : Mem), SimR l G Y_X11_init lim (K (.inr s_)) 133 [none, none] [] s_) : Sim l G Y_X11_init lim (f_X11_init_B109 lim M x0 x1) K 109 [some (.inr (.inr x0)), some (.inl x1)] [] M := by
  unfold f_X11_init_B109
  refine s_run (b := [(.iload_n 1, 1), (.iconst 3, 1)]) 111 [some (.inr (.inr x0)), some (.inl x1)] [.inl (3 : Int32), .inl x1] (by decide +kernel) rfl ?_
  refine s_ic_ge (tgt := 133) (off := 22) (by decide +kernel) (by decide) (fun h1 => ?_) (fun h1 => ?_)
  · skip
    exact s_lsub (ls' := [none, none]) trivial (kk2_0 M)
  · skip
    refine s_run (b := [(.aload_n 0, 1)]) 115 [some (.inr (.inr x0)), some (.inl x1)] [.inr (.inr x0)] (by decide +kernel) rfl ?_
    refine s_gR fl_11_16 rfl (by decide +kernel) (fun v2 => ?_)
    refine s_run (b := [(.iload_n 1, 1)]) 119 [some (.inr (.inr x0)), some (.inl x1)] [.inl x1, .inr (.inr v2)] (by decide +kernel) rfl ?_
    refine s_newZ (c := 9) rfl q29 q30 q2 (by decide +kernel) (fun z3 => ?_)
    refine s_run (b := [(.dup, 1)]) 123 [some (.inr (.inr x0)), some (.inl x1)] [.inr (.inr z3.1), .inr (.inr z3.1), .inl x1, .inr (.inr v2)] (by decide +kernel) rfl ?_
    refine s_cI (Z := Y_X9_init) (vs := []) (st := [.inr (.inr z3.1), .inl x1, .inr (.inr v2)]) zk_X9_init ⟨rfl, q32, rfl⟩ q31 ⟨by decide, by decide⟩ rfl rfl (Nat.le_of_ble_eq_true rfl) (by decide +kernel) (fun z hz => c_X9_init hz) (fun M4 => ?_)
    refine s_as ⟨by decide, by decide⟩ rfl rfl (by decide +kernel) (fun M5 => ?_)
    refine s_run (b := [(.iinc 1 1, 3), (.goto (-21), 3)]) 109 [some (.inr (.inr x0)), some (.inl (x1 + (1 : Int32)))] [] (by decide +kernel) rfl ?_
    exact s_lsub (ls' := [some (.inr (.inr x0)), some (.inl (x1 + (1 : Int32)))]) ⟨rfl, ⟨rfl, trivial⟩⟩ (kk1 (x1 + (1 : Int32)) M5)
set_option maxRecDepth 20000 in
theorem L_X11_init_109 {l : Launch} {G : Gv} {lim : Nat × Nat} (M : Mem) (x0 : Nat) (x1 : Int32) (K : ((Mem)) → Option (Option Value × Mem)) (kk2_0 : ∀ r : Mem, SimR l G Y_X11_init lim (K r) 133 [none, none] [] r) : Sim l G Y_X11_init lim (f_X11_init_L109 lim M x0 x1) K 109 [some (.inr (.inr x0)), some (.inl x1)] [] M :=
  s_iter (f := fun s : Int32 × Mem => f_X11_init_B109 lim s.2 x0 s.1) (hd := 109) (cl := fun s => [some (.inr (.inr x0)), some (.inl s.1)]) (cm := fun s => s.2) (xp := fun _ => 133) (xl := fun r => [none, none]) (xm := fun r => r) (fun s K h1 h2 => B_X11_init_109 s.2 x0 s.1 K (fun a1 a_ => h1 (a1, a_)) (fun a_ => h2 a_)) 1048576 (x1, M) K kk2_0
def f_X11_init_main (lim : Nat × Nat) (M : Mem) (x0 : Nat) : Option (Mem) :=
  (ob M 11 x0).bind fun _ =>
  (newS lim M (.inl 9)).bind fun z1 =>
  (ob z1.2 9 z1.1).bind fun _ => (rmS lim z1.2 41 1145).bind fun _ => (f_X9_init z1.2 z1.1).bind fun M2 =>
  (pR M2 11 x0 0 z1.1).bind fun M3 =>
  (newS lim M3 (.inr (4, 3))).bind fun z4 =>
  (pR z4.2 11 x0 1 z4.1).bind fun M5 =>
  (newS lim M5 (.inr (2, 3))).bind fun z6 =>
  (pR z6.2 11 x0 2 z6.1).bind fun M7 =>
  (newS lim M7 (.inl 7)).bind fun z8 =>
  (ob z8.2 7 z8.1).bind fun _ => (rmS lim z8.2 20 272).bind fun _ => (f_X7_init z8.2 z8.1).bind fun M9 =>
  (pR M9 11 x0 3 z8.1).bind fun M10 =>
  (newS lim M10 (.inl 3)).bind fun z11 =>
  (ob z11.2 3 z11.1).bind fun _ => (rmS lim z11.2 0 0).bind fun _ => (f_X3_init z11.2 z11.1).bind fun M12 =>
  (pR M12 11 x0 4 z11.1).bind fun M13 =>
  (newS lim M13 (.inl 2)).bind fun z14 =>
  (ob z14.2 2 z14.1).bind fun _ => (rmS lim z14.2 15 184).bind fun _ => (f_X2_init z14.2 z14.1).bind fun M15 =>
  (pR M15 11 x0 5 z14.1).bind fun M16 =>
  (newS lim M16 (.inl 0)).bind fun z17 =>
  (ob z17.2 0 z17.1).bind fun _ => (rmS lim z17.2 2 11).bind fun _ => (f_X0_init z17.2 z17.1).bind fun M18 =>
  (pR M18 11 x0 6 z17.1).bind fun M19 =>
  (newS lim M19 (.inl 10)).bind fun z20 =>
  (ob z20.2 10 z20.1).bind fun _ => (rmS lim z20.2 4 196).bind fun _ => (f_X10_init z20.2 z20.1).bind fun M21 =>
  (pR M21 11 x0 7 z20.1).bind fun M22 =>
  (newS lim M22 (.inl 8)).bind fun z23 =>
  (ob z23.2 8 z23.1).bind fun _ => (rmS lim z23.2 14 425).bind fun _ => (f_X8_init z23.2 z23.1).bind fun M24 =>
  (pR M24 11 x0 8 z23.1).bind fun M25 =>
  (newS lim M25 (.inl 6)).bind fun z26 =>
  (ob z26.2 6 z26.1).bind fun _ => (rmS lim z26.2 21 3209).bind fun _ => (f_X6_init z26.2 z26.1).bind fun M27 =>
  (pR M27 11 x0 9 z26.1).bind fun M28 =>
  (f_X11_init_L109 lim M28 x0 (0 : Int32)).bind fun r29 =>
  some r29
set_option maxRecDepth 20000 in
theorem S_X11_init {l : Launch} {G : Gv} {lim : Nat × Nat} (M : Mem) (x0 : Nat) : Sim l G Y_X11_init lim (f_X11_init_main lim M x0) (fun z => some (none, z)) 0 [some (.inr (.inr x0)), none] [] M := by
  unfold f_X11_init_main
  refine s_run (b := [(.aload_n 0, 1)]) 1 [some (.inr (.inr x0)), none] [.inr (.inr x0)] (by decide +kernel) rfl ?_
  refine s_objI q26 q27 q28 ⟨Nat.le_of_ble_eq_true rfl, Nat.le_of_ble_eq_true rfl⟩ (by decide +kernel) ?_
  refine s_run (b := [(.aload_n 0, 1)]) 5 [some (.inr (.inr x0)), none] [.inr (.inr x0)] (by decide +kernel) rfl ?_
  refine s_newZ (c := 9) rfl q29 q30 q2 (by decide +kernel) (fun z1 => ?_)
  refine s_run (b := [(.dup, 1)]) 9 [some (.inr (.inr x0)), none] [.inr (.inr z1.1), .inr (.inr z1.1), .inr (.inr x0)] (by decide +kernel) rfl ?_
  refine s_cI (Z := Y_X9_init) (vs := []) (st := [.inr (.inr z1.1), .inr (.inr x0)]) zk_X9_init ⟨rfl, q32, rfl⟩ q31 ⟨by decide, by decide⟩ rfl rfl (Nat.le_of_ble_eq_true rfl) (by decide +kernel) (fun z hz => c_X9_init hz) (fun M2 => ?_)
  refine s_pR fl_11_10 (Or.inl ⟨_, rfl⟩) (Or.inr ⟨rfl, _, _, rfl⟩) rfl (by decide +kernel) (fun M3 => ?_)
  refine s_run (b := [(.aload_n 0, 1), (.iconst 3, 1)]) 17 [some (.inr (.inr x0)), none] [.inl (3 : Int32), .inr (.inr x0)] (by decide +kernel) rfl ?_
  refine s_anewZ (t := 4) ⟨by decide, by decide⟩ rfl (by decide) q29 (by decide) (by decide +kernel) (fun z4 => ?_)
  refine s_pR fl_11_16 (Or.inr ⟨_, rfl⟩) (Or.inr ⟨rfl, _, _, rfl⟩) rfl (by decide +kernel) (fun M5 => ?_)
  refine s_run (b := [(.aload_n 0, 1), (.iconst 3, 1)]) 25 [some (.inr (.inr x0)), none] [.inl (3 : Int32), .inr (.inr x0)] (by decide +kernel) rfl ?_
  refine s_newaZ .boolean (t := 2) (by decide) rfl q261 (by decide) (by decide +kernel) (fun z6 => ?_)
  refine s_pR fl_11_20 (Or.inr ⟨_, rfl⟩) (Or.inr ⟨rfl, _, _, rfl⟩) rfl (by decide +kernel) (fun M7 => ?_)
  refine s_run (b := [(.aload_n 0, 1)]) 31 [some (.inr (.inr x0)), none] [.inr (.inr x0)] (by decide +kernel) rfl ?_
  refine s_newZ (c := 7) rfl q207 q208 q6 (by decide +kernel) (fun z8 => ?_)
  refine s_run (b := [(.dup, 1)]) 35 [some (.inr (.inr x0)), none] [.inr (.inr z8.1), .inr (.inr z8.1), .inr (.inr x0)] (by decide +kernel) rfl ?_
  refine s_cIN (Z := Y_X7_init) (vs := []) (st := [.inr (.inr z8.1), .inr (.inr x0)]) zk_X7_init ⟨rfl, q210, rfl⟩ (List.mem_of_getElem? (i := 2) rfl) ⟨by decide, by decide⟩ rfl rfl (Nat.le_of_ble_eq_true rfl) (by decide +kernel) (fun z hz => c_X7_init hz) (fun M9 => ?_)
  refine s_pR fl_11_27 (Or.inl ⟨_, rfl⟩) (Or.inr ⟨rfl, _, _, rfl⟩) rfl (by decide +kernel) (fun M10 => ?_)
  refine s_run (b := [(.aload_n 0, 1)]) 42 [some (.inr (.inr x0)), none] [.inr (.inr x0)] (by decide +kernel) rfl ?_
  refine s_newZ (c := 3) rfl q262 q263 q7 (by decide +kernel) (fun z11 => ?_)
  refine s_run (b := [(.dup, 1)]) 46 [some (.inr (.inr x0)), none] [.inr (.inr z11.1), .inr (.inr z11.1), .inr (.inr x0)] (by decide +kernel) rfl ?_
  refine s_cIN (Z := Y_X3_init) (vs := []) (st := [.inr (.inr z11.1), .inr (.inr x0)]) zk_X3_init ⟨rfl, q265, rfl⟩ (List.mem_of_getElem? (i := 5) rfl) ⟨by decide, by decide⟩ rfl rfl (Nat.le_of_ble_eq_true rfl) (by decide +kernel) (fun z hz => c_X3_init hz) (fun M12 => ?_)
  refine s_pR fl_11_34 (Or.inl ⟨_, rfl⟩) (Or.inr ⟨rfl, _, _, rfl⟩) rfl (by decide +kernel) (fun M13 => ?_)
  refine s_run (b := [(.aload_n 0, 1)]) 53 [some (.inr (.inr x0)), none] [.inr (.inr x0)] (by decide +kernel) rfl ?_
  refine s_newZ (c := 2) rfl q289 q290 q8 (by decide +kernel) (fun z14 => ?_)
  refine s_run (b := [(.dup, 1)]) 57 [some (.inr (.inr x0)), none] [.inr (.inr z14.1), .inr (.inr z14.1), .inr (.inr x0)] (by decide +kernel) rfl ?_
  refine s_cIN (Z := Y_X2_init) (vs := []) (st := [.inr (.inr z14.1), .inr (.inr x0)]) zk_X2_init ⟨rfl, q292, rfl⟩ (List.mem_of_getElem? (i := 6) rfl) ⟨by decide, by decide⟩ rfl rfl (Nat.le_of_ble_eq_true rfl) (by decide +kernel) (fun z hz => c_X2_init hz) (fun M15 => ?_)
  refine s_pR fl_11_41 (Or.inl ⟨_, rfl⟩) (Or.inr ⟨rfl, _, _, rfl⟩) rfl (by decide +kernel) (fun M16 => ?_)
  refine s_run (b := [(.aload_n 0, 1)]) 64 [some (.inr (.inr x0)), none] [.inr (.inr x0)] (by decide +kernel) rfl ?_
  refine s_newZ (c := 0) rfl q344 q345 q9 (by decide +kernel) (fun z17 => ?_)
  refine s_run (b := [(.dup, 1)]) 68 [some (.inr (.inr x0)), none] [.inr (.inr z17.1), .inr (.inr z17.1), .inr (.inr x0)] (by decide +kernel) rfl ?_
  refine s_cIN (Z := Y_X0_init) (vs := []) (st := [.inr (.inr z17.1), .inr (.inr x0)]) zk_X0_init ⟨rfl, q347, rfl⟩ (List.mem_of_getElem? (i := 8) rfl) ⟨by decide, by decide⟩ rfl rfl (Nat.le_of_ble_eq_true rfl) (by decide +kernel) (fun z hz => c_X0_init hz) (fun M18 => ?_)
  refine s_pR fl_11_48 (Or.inl ⟨_, rfl⟩) (Or.inr ⟨rfl, _, _, rfl⟩) rfl (by decide +kernel) (fun M19 => ?_)
  refine s_run (b := [(.aload_n 0, 1)]) 75 [some (.inr (.inr x0)), none] [.inr (.inr x0)] (by decide +kernel) rfl ?_
  refine s_newZ (c := 10) rfl q368 q369 q10 (by decide +kernel) (fun z20 => ?_)
  refine s_run (b := [(.dup, 1)]) 79 [some (.inr (.inr x0)), none] [.inr (.inr z20.1), .inr (.inr z20.1), .inr (.inr x0)] (by decide +kernel) rfl ?_
  refine s_cIN (Z := Y_X10_init) (vs := []) (st := [.inr (.inr z20.1), .inr (.inr x0)]) zk_X10_init ⟨rfl, q371, rfl⟩ (List.mem_of_getElem? (i := 10) rfl) ⟨by decide, by decide⟩ rfl rfl (Nat.le_of_ble_eq_true rfl) (by decide +kernel) (fun z hz => c_X10_init hz) (fun M21 => ?_)
  refine s_pR fl_11_55 (Or.inl ⟨_, rfl⟩) (Or.inr ⟨rfl, _, _, rfl⟩) rfl (by decide +kernel) (fun M22 => ?_)
  refine s_run (b := [(.aload_n 0, 1)]) 86 [some (.inr (.inr x0)), none] [.inr (.inr x0)] (by decide +kernel) rfl ?_
  refine s_newZ (c := 8) rfl q396 q397 q11 (by decide +kernel) (fun z23 => ?_)
  refine s_run (b := [(.dup, 1)]) 90 [some (.inr (.inr x0)), none] [.inr (.inr z23.1), .inr (.inr z23.1), .inr (.inr x0)] (by decide +kernel) rfl ?_
  refine s_cIN (Z := Y_X8_init) (vs := []) (st := [.inr (.inr z23.1), .inr (.inr x0)]) zk_X8_init ⟨rfl, q399, rfl⟩ (List.mem_of_getElem? (i := 11) rfl) ⟨by decide, by decide⟩ rfl rfl (Nat.le_of_ble_eq_true rfl) (by decide +kernel) (fun z hz => c_X8_init hz) (fun M24 => ?_)
  refine s_pR fl_11_62 (Or.inl ⟨_, rfl⟩) (Or.inr ⟨rfl, _, _, rfl⟩) rfl (by decide +kernel) (fun M25 => ?_)
  refine s_run (b := [(.aload_n 0, 1)]) 97 [some (.inr (.inr x0)), none] [.inr (.inr x0)] (by decide +kernel) rfl ?_
  refine s_newZ (c := 6) rfl q422 q423 q12 (by decide +kernel) (fun z26 => ?_)
  refine s_run (b := [(.dup, 1)]) 101 [some (.inr (.inr x0)), none] [.inr (.inr z26.1), .inr (.inr z26.1), .inr (.inr x0)] (by decide +kernel) rfl ?_
  refine s_cIN (Z := Y_X6_init) (vs := []) (st := [.inr (.inr z26.1), .inr (.inr x0)]) zk_X6_init ⟨rfl, q425, rfl⟩ (List.mem_of_getElem? (i := 13) rfl) ⟨by decide, by decide⟩ rfl rfl (Nat.le_of_ble_eq_true rfl) (by decide +kernel) (fun z hz => c_X6_init hz) (fun M27 => ?_)
  refine s_pR fl_11_69 (Or.inl ⟨_, rfl⟩) (Or.inr ⟨rfl, _, _, rfl⟩) rfl (by decide +kernel) (fun M28 => ?_)
  refine s_run (b := [(.iconst 0, 1), (.istore_n 1, 1)]) 109 [some (.inr (.inr x0)), some (.inl (0 : Int32))] [] (by decide +kernel) rfl ?_
  refine s_lsub (ls' := [some (.inr (.inr x0)), some (.inl (0 : Int32))]) ⟨rfl, ⟨rfl, trivial⟩⟩ ?_
  refine sim_bind (L_X11_init_109 M28 x0 (0 : Int32) _ (fun r29 => ?_))
  change Sim l G Y_X11_init lim _ _ 133 [none, none] [] r29
  exact s_vret (by decide +kernel) rfl
def f_X11_init (M : Mem) (x0 : Nat) : Option Mem := (f_X11_init_main (M.2.2.2.length + 253, ssum M.2.2.2 + 8967) M x0).bind (fun z => rtS (M.2.2.2.length + 253, ssum M.2.2.2 + 8967) z)
set_option maxRecDepth 20000 in
theorem c_X11_init {l : Launch} {G : Gv} {M : Mem} {x0 : Nat} {z : Mem} (h : f_X11_init M x0 = some z) : MetS l G Y_X11_init [.inr (.inr x0)] M none z := by
  obtain ⟨z1, h1, h2⟩ := Option.bind_eq_some_iff.mp h
  obtain ⟨h3, h2⟩ := ifs h2; cases h2
  exact met_of (ls0 := [some (.inr (.inr x0)), none]) (by decide) rfl (lv_in (m := 1) rfl) (sl_le (Nat.le_of_ble_eq_true rfl)) (show (f_X11_init_main (M.2.2.2.length + 253, ssum M.2.2.2 + 8967) M x0).bind _ = _ by rw [h1]; rfl) (Or.inr h3) (S_X11_init M x0)
def f_X5_loudestDesk_B4 (M : Mem) (x0 : Nat) (x1 : Int32) (x2 : Int32) : Option ((Int32 × Int32) ⊕ ((Int32))) :=
  (gI M 5 x0 0).bind fun v1 =>
  (if v1 ≤ x2 then
    some (.inr x1)
  else
    (gR M 5 x0 13).bind fun v3 =>
    (aI M 0 v3 x2).bind fun v4 =>
    (f_J6_bitCount_0f7a4 M v4).bind fun v5 =>
    (gR M 5 x0 13).bind fun v6 =>
    (aI M 0 v6 x1).bind fun v7 =>
    (f_J6_bitCount_0f7a4 M v7).bind fun v8 =>
    (if v5 ≤ v8 then
      some (.inl (x1, (x2 + (1 : Int32))))
    else
      some (.inl (x2, (x2 + (1 : Int32))))))
def f_X5_loudestDesk_L4 (M : Mem) (x0 : Nat) (x1 : Int32) (x2 : Int32) : Option ((Int32)) := iter (fun s : Int32 × Int32 => f_X5_loudestDesk_B4 M x0 s.1 s.2) 1048576 (x1, x2)
set_option maxRecDepth 20000 in
theorem B_X5_loudestDesk_4 {l : Launch} {G : Gv} {lim : Nat × Nat} (M : Mem) (x0 : Nat) (x1 : Int32) (x2 : Int32) (K : (Int32 × Int32) ⊕ ((Int32)) → Option (Option Value × Mem)) (kk1 : ∀ (s1 : Int32) (s2 : Int32), SimR l G Y_X5_loudestDesk lim (K (.inl (s1, s2))) 4 [some (.inr (.inr x0)), some (.inl s1), some (.inl s2)] [] M) (kk2_0 : ∀ (s1 : Int32), SimR l G Y_X5_loudestDesk lim (K (.inr s1)) 41 [none, some (.inl s1), none] [] M) : Sim l G Y_X5_loudestDesk lim (f_X5_loudestDesk_B4 M x0 x1 x2) K 4 [some (.inr (.inr x0)), some (.inl x1), some (.inl x2)] [] M := by
  unfold f_X5_loudestDesk_B4
  refine s_run (b := [(.iload_n 2, 1), (.aload_n 0, 1)]) 6 [some (.inr (.inr x0)), some (.inl x1), some (.inl x2)] [.inr (.inr x0), .inl x2] (by decide +kernel) rfl ?_
  refine s_gI fl_5_45 rfl (by decide +kernel) (fun v1 => ?_)
  refine s_ic_ge (tgt := 41) (off := 32) (by decide +kernel) (by decide) (fun h2 => ?_) (fun h2 => ?_)
  · skip
    exact s_lsub (ls' := [none, some (.inl x1), none]) ⟨rfl, trivial⟩ (kk2_0 x1)
  · skip
    refine s_run (b := [(.aload_n 0, 1)]) 13 [some (.inr (.inr x0)), some (.inl x1), some (.inl x2)] [.inr (.inr x0)] (by decide +kernel) rfl ?_
    refine s_gR fl_5_36 rfl (by decide +kernel) (fun v3 => ?_)
    refine s_run (b := [(.iload_n 2, 1)]) 17 [some (.inr (.inr x0)), some (.inl x1), some (.inl x2)] [.inl x2, .inr (.inr v3)] (by decide +kernel) rfl ?_
    refine s_ia (by decide +kernel) (fun v4 => ?_)
    refine s_cS (Z := Y_J6_bitCount_0f7a4) (vs := [.inl v4]) (st := []) (rO := fun z => some (.inl z)) (mO := fun _ => M) zk_J6_bitCount_0f7a4 q819 q1123 ⟨by decide, by decide⟩ ⟨rfl, rfl⟩ rfl rfl (Nat.le_of_ble_eq_true rfl) (by decide +kernel) (fun z hz => c_J6_bitCount_0f7a4 hz) (fun v5 => ?_)
    change Sim l G Y_X5_loudestDesk lim _ _ 21 [some (.inr (.inr x0)), some (.inl x1), some (.inl x2)] [.inl v5] M
    refine s_run (b := [(.aload_n 0, 1)]) 22 [some (.inr (.inr x0)), some (.inl x1), some (.inl x2)] [.inr (.inr x0), .inl v5] (by decide +kernel) rfl ?_
    refine s_gR fl_5_36 rfl (by decide +kernel) (fun v6 => ?_)
    refine s_run (b := [(.iload_n 1, 1)]) 26 [some (.inr (.inr x0)), some (.inl x1), some (.inl x2)] [.inl x1, .inr (.inr v6), .inl v5] (by decide +kernel) rfl ?_
    refine s_ia (by decide +kernel) (fun v7 => ?_)
    refine s_cS (Z := Y_J6_bitCount_0f7a4) (vs := [.inl v7]) (st := [.inl v5]) (rO := fun z => some (.inl z)) (mO := fun _ => M) zk_J6_bitCount_0f7a4 q819 q1123 ⟨by decide, by decide⟩ ⟨rfl, rfl⟩ rfl rfl (Nat.le_of_ble_eq_true rfl) (by decide +kernel) (fun z hz => c_J6_bitCount_0f7a4 hz) (fun v8 => ?_)
    change Sim l G Y_X5_loudestDesk lim _ _ 30 [some (.inr (.inr x0)), some (.inl x1), some (.inl x2)] [.inl v8, .inl v5] M
    refine s_ic_le (tgt := 35) (off := 5) (by decide +kernel) (by decide) (fun h9 => ?_) (fun h9 => ?_)
    · skip
      refine s_run (b := [(.iinc 2 1, 3), (.goto (-34), 3)]) 4 [some (.inr (.inr x0)), some (.inl x1), some (.inl (x2 + (1 : Int32)))] [] (by decide +kernel) rfl ?_
      exact s_lsub (ls' := [some (.inr (.inr x0)), some (.inl x1), some (.inl (x2 + (1 : Int32)))]) ⟨rfl, ⟨rfl, ⟨rfl, trivial⟩⟩⟩ (kk1 x1 (x2 + (1 : Int32)))
    · skip
      refine s_run (b := [(.iload_n 2, 1), (.istore_n 1, 1), (.iinc 2 1, 3), (.goto (-34), 3)]) 4 [some (.inr (.inr x0)), some (.inl x2), some (.inl (x2 + (1 : Int32)))] [] (by decide +kernel) rfl ?_
      exact s_lsub (ls' := [some (.inr (.inr x0)), some (.inl x2), some (.inl (x2 + (1 : Int32)))]) ⟨rfl, ⟨rfl, ⟨rfl, trivial⟩⟩⟩ (kk1 x2 (x2 + (1 : Int32)))
set_option maxRecDepth 20000 in
theorem L_X5_loudestDesk_4 {l : Launch} {G : Gv} {lim : Nat × Nat} (M : Mem) (x0 : Nat) (x1 : Int32) (x2 : Int32) (K : ((Int32)) → Option (Option Value × Mem)) (kk2_0 : ∀ r : Int32, SimR l G Y_X5_loudestDesk lim (K r) 41 [none, some (.inl r), none] [] M) : Sim l G Y_X5_loudestDesk lim (f_X5_loudestDesk_L4 M x0 x1 x2) K 4 [some (.inr (.inr x0)), some (.inl x1), some (.inl x2)] [] M :=
  s_iter (f := fun s : Int32 × Int32 => f_X5_loudestDesk_B4 M x0 s.1 s.2) (hd := 4) (cl := fun s => [some (.inr (.inr x0)), some (.inl s.1), some (.inl s.2)]) (cm := fun s => M) (xp := fun _ => 41) (xl := fun r => [none, some (.inl r), none]) (xm := fun r => M) (fun s K h1 h2 => B_X5_loudestDesk_4 M x0 s.1 s.2 K (fun a1 a2 => h1 (a1, a2)) (fun a1 => h2 a1)) 1048576 (x1, x2) K kk2_0
def f_X5_loudestDesk (M : Mem) (x0 : Nat) : Option (Int32) :=
  (f_X5_loudestDesk_L4 M x0 (0 : Int32) (1 : Int32)).bind fun r1 =>
  some r1
set_option maxRecDepth 20000 in
theorem S_X5_loudestDesk {l : Launch} {G : Gv} {lim : Nat × Nat} (M : Mem) (x0 : Nat) : Sim l G Y_X5_loudestDesk lim (f_X5_loudestDesk M x0) (fun z => some (some (.int z), M)) 0 [some (.inr (.inr x0)), none, none] [] M := by
  unfold f_X5_loudestDesk
  refine s_run (b := [(.iconst 0, 1), (.istore_n 1, 1), (.iconst 1, 1), (.istore_n 2, 1)]) 4 [some (.inr (.inr x0)), some (.inl (0 : Int32)), some (.inl (1 : Int32))] [] (by decide +kernel) rfl ?_
  refine s_lsub (ls' := [some (.inr (.inr x0)), some (.inl (0 : Int32)), some (.inl (1 : Int32))]) ⟨rfl, ⟨rfl, ⟨rfl, trivial⟩⟩⟩ ?_
  refine sim_bind (L_X5_loudestDesk_4 M x0 (0 : Int32) (1 : Int32) _ (fun r1 => ?_))
  change Sim l G Y_X5_loudestDesk lim _ _ 41 [none, some (.inl r1), none] [] M
  refine s_run (b := [(.iload_n 1, 1)]) 42 [none, some (.inl r1), none] [.inl r1] (by decide +kernel) rfl ?_
  exact s_iret (by decide +kernel) rfl
set_option maxRecDepth 20000 in
theorem c_X5_loudestDesk {l : Launch} {G : Gv} {M : Mem} {x0 : Nat} {z : Int32} (h : f_X5_loudestDesk M x0 = some z) : MetS l G Y_X5_loudestDesk [.inr (.inr x0)] M (some (.int z)) M :=
  met_of (ls0 := [some (.inr (.inr x0)), none, none]) (by decide) rfl (lv_in (m := 2) rfl) (sl_le (Nat.le_of_ble_eq_true rfl)) (by rw [h]; rfl) (Or.inl ⟨rfl, rfl⟩) (S_X5_loudestDesk M x0)
def f_X11_loud (M : Mem) (x0 : Nat) (x1 : Int32) (x2 : Int32) : Option (Int32) :=
  (gR M 11 x0 0).bind fun v1 =>
  (ob M 9 v1).bind fun _ => (f_X9_officeAt M v1 x1).bind fun v2 =>
  (if v2 = 0 then
    some (-1 : Int32)
  else
    (gI M 5 v2 0).bind fun v4 =>
    (if v4 = 0 then
      some (-1 : Int32)
    else
      (ob M 5 v2).bind fun _ => (f_X5_loudestDesk M v2).bind fun v6 =>
      (if x2 = 0 then
        some v6
      else
        (gR M 5 v2 13).bind fun v8 =>
        (aI M 0 v8 v6).bind fun v9 =>
        (f_J6_bitCount_0f7a4 M v9).bind fun v10 =>
        some v10)))
set_option maxRecDepth 20000 in
theorem S_X11_loud {l : Launch} {G : Gv} {lim : Nat × Nat} (M : Mem) (x0 : Nat) (x1 : Int32) (x2 : Int32) : Sim l G Y_X11_loud lim (f_X11_loud M x0 x1 x2) (fun z => some (some (.int z), M)) 0 [some (.inr (.inr x0)), some (.inl x1), some (.inl x2), none, none] [] M := by
  unfold f_X11_loud
  refine s_run (b := [(.aload_n 0, 1)]) 1 [some (.inr (.inr x0)), some (.inl x1), some (.inl x2), none, none] [.inr (.inr x0)] (by decide +kernel) rfl ?_
  refine s_gR fl_11_10 rfl (by decide +kernel) (fun v1 => ?_)
  refine s_run (b := [(.iload_n 1, 1)]) 5 [some (.inr (.inr x0)), some (.inl x1), some (.inl x2), none, none] [.inl x1, .inr (.inr v1)] (by decide +kernel) rfl ?_
  refine s_cV (Z := Y_X9_officeAt) (c := 9) (vs := [.inl x1]) (st := []) (rO := fun z => some (.inr (.inr z))) (mO := fun _ => M) zk_X9_officeAt zi_X9_officeAt q716 rfl ⟨by decide, by decide⟩ ⟨rfl, rfl⟩ rfl rfl (Nat.le_of_ble_eq_true rfl) (by decide +kernel) (fun z hz => c_X9_officeAt hz) (fun v2 => ?_)
  change Sim l G Y_X11_loud lim _ _ 8 [some (.inr (.inr x0)), some (.inl x1), some (.inl x2), none, none] [.inr (.inr v2)] M
  refine s_run (b := [(.astore_n 3, 1), (.aload_n 3, 1)]) 10 [some (.inr (.inr x0)), some (.inl x1), some (.inl x2), some (.inr (.inr v2)), none] [.inr (.inr v2)] (by decide +kernel) rfl ?_
  refine s_ifnull (tgt := 20) (off := 10) (by decide +kernel) (by decide) (fun h3 => ?_) (fun h3 => ?_)
  · skip
    refine s_run (b := [(.iconst (-1), 1)]) 21 [some (.inr (.inr x0)), some (.inl x1), some (.inl x2), some (.inr (.inr v2)), none] [.inl (-1 : Int32)] (by decide +kernel) rfl ?_
    exact s_iret (by decide +kernel) rfl
  · skip
    refine s_run (b := [(.aload_n 3, 1)]) 14 [some (.inr (.inr x0)), some (.inl x1), some (.inl x2), some (.inr (.inr v2)), none] [.inr (.inr v2)] (by decide +kernel) rfl ?_
    refine s_gI fl_11_214 rfl (by decide +kernel) (fun v4 => ?_)
    refine s_if_ne (tgt := 22) (off := 5) (by decide +kernel) (by decide) (fun h5 => ?_) (fun h5 => ?_)
    · skip
      refine s_run (b := [(.iconst (-1), 1)]) 21 [some (.inr (.inr x0)), some (.inl x1), some (.inl x2), some (.inr (.inr v2)), none] [.inl (-1 : Int32)] (by decide +kernel) rfl ?_
      exact s_iret (by decide +kernel) rfl
    · skip
      refine s_run (b := [(.aload_n 3, 1)]) 23 [some (.inr (.inr x0)), some (.inl x1), some (.inl x2), some (.inr (.inr v2)), none] [.inr (.inr v2)] (by decide +kernel) rfl ?_
      refine s_cV (Z := Y_X5_loudestDesk) (c := 5) (vs := []) (st := []) (rO := fun z => some (.inl z)) (mO := fun _ => M) zk_X5_loudestDesk zi_X5_loudestDesk q1290 rfl ⟨by decide, by decide⟩ ⟨rfl, rfl⟩ rfl rfl (Nat.le_of_ble_eq_true rfl) (by decide +kernel) (fun z hz => c_X5_loudestDesk hz) (fun v6 => ?_)
      change Sim l G Y_X11_loud lim _ _ 26 [some (.inr (.inr x0)), some (.inl x1), some (.inl x2), some (.inr (.inr v2)), none] [.inl v6] M
      refine s_run (b := [(.istore 4, 2), (.iload_n 2, 1)]) 29 [some (.inr (.inr x0)), some (.inl x1), some (.inl x2), some (.inr (.inr v2)), some (.inl v6)] [.inl x2] (by decide +kernel) rfl ?_
      refine s_if_eq (tgt := 45) (off := 16) (by decide +kernel) (by decide) (fun h7 => ?_) (fun h7 => ?_)
      · skip
        refine s_run (b := [(.iload 4, 2)]) 47 [some (.inr (.inr x0)), some (.inl x1), some (.inl x2), some (.inr (.inr v2)), some (.inl v6)] [.inl v6] (by decide +kernel) rfl ?_
        exact s_iret (by decide +kernel) rfl
      · skip
        refine s_run (b := [(.aload_n 3, 1)]) 33 [some (.inr (.inr x0)), some (.inl x1), some (.inl x2), some (.inr (.inr v2)), some (.inl v6)] [.inr (.inr v2)] (by decide +kernel) rfl ?_
        refine s_gR fl_11_321 rfl (by decide +kernel) (fun v8 => ?_)
        refine s_run (b := [(.iload 4, 2)]) 38 [some (.inr (.inr x0)), some (.inl x1), some (.inl x2), some (.inr (.inr v2)), some (.inl v6)] [.inl v6, .inr (.inr v8)] (by decide +kernel) rfl ?_
        refine s_ia (by decide +kernel) (fun v9 => ?_)
        refine s_cS (Z := Y_J6_bitCount_0f7a4) (vs := [.inl v9]) (st := []) (rO := fun z => some (.inl z)) (mO := fun _ => M) zk_J6_bitCount_0f7a4 q819 q1093 ⟨by decide, by decide⟩ ⟨rfl, rfl⟩ rfl rfl (Nat.le_of_ble_eq_true rfl) (by decide +kernel) (fun z hz => c_J6_bitCount_0f7a4 hz) (fun v10 => ?_)
        change Sim l G Y_X11_loud lim _ _ 42 [some (.inr (.inr x0)), some (.inl x1), some (.inl x2), some (.inr (.inr v2)), some (.inl v6)] [.inl v10] M
        refine s_run (b := [(.goto 5, 3)]) 47 [some (.inr (.inr x0)), some (.inl x1), some (.inl x2), some (.inr (.inr v2)), some (.inl v6)] [.inl v10] (by decide +kernel) rfl ?_
        exact s_iret (by decide +kernel) rfl
set_option maxRecDepth 20000 in
theorem c_X11_loud {l : Launch} {G : Gv} {M : Mem} {x0 : Nat} {x1 : Int32} {x2 : Int32} {z : Int32} (h : f_X11_loud M x0 x1 x2 = some z) : MetS l G Y_X11_loud [.inr (.inr x0), .inl x1, .inl x2] M (some (.int z)) M :=
  met_of (ls0 := [some (.inr (.inr x0)), some (.inl x1), some (.inl x2), none, none]) (by decide) rfl (lv_in (m := 2) rfl) (sl_le (Nat.le_of_ble_eq_true rfl)) (by rw [h]; rfl) (Or.inl ⟨rfl, rfl⟩) (S_X11_loud M x0 x1 x2)
def f_X5_gotAt (M : Mem) (x0 : Nat) (x1 : Int32) (x2 : Int32) : Option (Int32) :=
  (ob M 5 x0).bind fun _ => (f_X5_inTime M x0 x1 x2).bind fun v1 =>
  (if v1 = 0 then
    some (0 : Int32)
  else
    (gR M 5 x0 11).bind fun v3 =>
    (aI M 0 v3 x1).bind fun v4 =>
    (ob M 5 x0).bind fun _ => (f_X5_faded M x0 v4 x2).bind fun v5 =>
    some v5)
set_option maxRecDepth 20000 in
theorem S_X5_gotAt {l : Launch} {G : Gv} {lim : Nat × Nat} (M : Mem) (x0 : Nat) (x1 : Int32) (x2 : Int32) : Sim l G Y_X5_gotAt lim (f_X5_gotAt M x0 x1 x2) (fun z => some (some (.int z), M)) 0 [some (.inr (.inr x0)), some (.inl x1), some (.inl x2)] [] M := by
  unfold f_X5_gotAt
  refine s_run (b := [(.aload_n 0, 1), (.iload_n 1, 1), (.iload_n 2, 1)]) 3 [some (.inr (.inr x0)), some (.inl x1), some (.inl x2)] [.inl x2, .inl x1, .inr (.inr x0)] (by decide +kernel) rfl ?_
  refine s_cV (Z := Y_X5_inTime) (c := 5) (vs := [.inl x1, .inl x2]) (st := []) (rO := fun z => some (.inl z)) (mO := fun _ => M) zk_X5_inTime zi_X5_inTime q886 rfl ⟨by decide, by decide⟩ ⟨rfl, rfl⟩ rfl rfl (Nat.le_of_ble_eq_true rfl) (by decide +kernel) (fun z hz => c_X5_inTime hz) (fun v1 => ?_)
  change Sim l G Y_X5_gotAt lim _ _ 6 [some (.inr (.inr x0)), some (.inl x1), some (.inl x2)] [.inl v1] M
  refine s_if_eq (tgt := 23) (off := 17) (by decide +kernel) (by decide) (fun h2 => ?_) (fun h2 => ?_)
  · skip
    refine s_run (b := [(.iconst 0, 1)]) 24 [some (.inr (.inr x0)), some (.inl x1), some (.inl x2)] [.inl (0 : Int32)] (by decide +kernel) rfl ?_
    exact s_iret (by decide +kernel) rfl
  · skip
    refine s_run (b := [(.aload_n 0, 1), (.aload_n 0, 1)]) 11 [some (.inr (.inr x0)), some (.inl x1), some (.inl x2)] [.inr (.inr x0), .inr (.inr x0)] (by decide +kernel) rfl ?_
    refine s_gR fl_5_30 rfl (by decide +kernel) (fun v3 => ?_)
    refine s_run (b := [(.iload_n 1, 1)]) 15 [some (.inr (.inr x0)), some (.inl x1), some (.inl x2)] [.inl x1, .inr (.inr v3), .inr (.inr x0)] (by decide +kernel) rfl ?_
    refine s_ia (by decide +kernel) (fun v4 => ?_)
    refine s_run (b := [(.iload_n 2, 1)]) 17 [some (.inr (.inr x0)), some (.inl x1), some (.inl x2)] [.inl x2, .inl v4, .inr (.inr x0)] (by decide +kernel) rfl ?_
    refine s_cV (Z := Y_X5_faded) (c := 5) (vs := [.inl v4, .inl x2]) (st := []) (rO := fun z => some (.inl z)) (mO := fun _ => M) zk_X5_faded zi_X5_faded q887 rfl ⟨by decide, by decide⟩ ⟨rfl, rfl⟩ rfl rfl (Nat.le_of_ble_eq_true rfl) (by decide +kernel) (fun z hz => c_X5_faded hz) (fun v5 => ?_)
    change Sim l G Y_X5_gotAt lim _ _ 20 [some (.inr (.inr x0)), some (.inl x1), some (.inl x2)] [.inl v5] M
    refine s_run (b := [(.goto 4, 3)]) 24 [some (.inr (.inr x0)), some (.inl x1), some (.inl x2)] [.inl v5] (by decide +kernel) rfl ?_
    exact s_iret (by decide +kernel) rfl
set_option maxRecDepth 20000 in
theorem c_X5_gotAt {l : Launch} {G : Gv} {M : Mem} {x0 : Nat} {x1 : Int32} {x2 : Int32} {z : Int32} (h : f_X5_gotAt M x0 x1 x2 = some z) : MetS l G Y_X5_gotAt [.inr (.inr x0), .inl x1, .inl x2] M (some (.int z)) M :=
  met_of (ls0 := [some (.inr (.inr x0)), some (.inl x1), some (.inl x2)]) (by decide) rfl (lv_in (m := 0) rfl) (sl_le (Nat.le_of_ble_eq_true rfl)) (by rw [h]; rfl) (Or.inl ⟨rfl, rfl⟩) (S_X5_gotAt M x0 x1 x2)
def f_X6_gotWithout_B5 (M : Mem) (x0 : Nat) (x1 : Nat) (x2 : Int32) (x3 : Int32) (x4 : Int32) : Option ((Int32 × Int32 × Mem) ⊕ ((Int32 × Mem))) :=
  (gI M 5 x1 1).bind fun v1 =>
  (if v1 ≤ x4 then
    some (.inr (x3, M))
  else
    (gR M 6 x0 4).bind fun v3 =>
    (gR M 5 x1 10).bind fun v4 =>
    (aI M 0 v4 x4).bind fun v5 =>
    (ob M 5 x1).bind fun _ => (f_X5_everybody M x1).bind fun v6 =>
    (ob M 3 v3).bind fun _ => (f_X3_asTold M v3 x1 v5 (v6 &&& (x2 ^^^ (-1 : Int32))) 1000).bind fun z7 =>
    (gR z7 6 x0 4).bind fun v8 =>
    (gI z7 3 v8 1).bind fun v9 =>
    (ob z7 5 x1).bind fun _ => (f_X5_gotAt z7 x1 x4 v9).bind fun v10 =>
    some (.inl ((x3 + v10), (x4 + (1 : Int32)), z7)))
def f_X6_gotWithout_L5 (M : Mem) (x0 : Nat) (x1 : Nat) (x2 : Int32) (x3 : Int32) (x4 : Int32) : Option ((Int32 × Mem)) := iter (fun s : Int32 × Int32 × Mem => f_X6_gotWithout_B5 s.2.2 x0 x1 x2 s.1 s.2.1) 1048576 (x3, x4, M)
set_option maxRecDepth 20000 in
theorem B_X6_gotWithout_5 {l : Launch} {G : Gv} {lim : Nat × Nat} (M : Mem) (x0 : Nat) (x1 : Nat) (x2 : Int32) (x3 : Int32) (x4 : Int32) (K : (Int32 × Int32 × Mem) ⊕ ((Int32 × Mem)) → Option (Option Value × Mem)) (kk1 : ∀ (s3 : Int32) (s4 : Int32) (s_ : Mem), SimR l G Y_X6_gotWithout lim (K (.inl (s3, s4, s_))) 5 [some (.inr (.inr x0)), some (.inr (.inr x1)), some (.inl x2), some (.inl s3), some (.inl s4)] [] s_) (kk2_0 : ∀ (s3 : Int32) (s_ : Mem), SimR l G Y_X6_gotWithout lim (K (.inr (s3, s_))) 62 [none, none, none, some (.inl s3), none] [] s_) : Sim l G Y_X6_gotWithout lim (f_X6_gotWithout_B5 M x0 x1 x2 x3 x4) K 5 [some (.inr (.inr x0)), some (.inr (.inr x1)), some (.inl x2), some (.inl x3), some (.inl x4)] [] M := by
  unfold f_X6_gotWithout_B5
  refine s_run (b := [(.iload 4, 2), (.aload_n 1, 1)]) 8 [some (.inr (.inr x0)), some (.inr (.inr x1)), some (.inl x2), some (.inl x3), some (.inl x4)] [.inr (.inr x1), .inl x4] (by decide +kernel) rfl ?_
  refine s_gI fl_6_78 rfl (by decide +kernel) (fun v1 => ?_)
  refine s_ic_ge (tgt := 62) (off := 51) (by decide +kernel) (by decide) (fun h2 => ?_) (fun h2 => ?_)
  · skip
    exact s_lsub (ls' := [none, none, none, some (.inl x3), none]) ⟨rfl, trivial⟩ (kk2_0 x3 M)
  · skip
    refine s_run (b := [(.aload_n 0, 1)]) 15 [some (.inr (.inr x0)), some (.inr (.inr x1)), some (.inl x2), some (.inl x3), some (.inl x4)] [.inr (.inr x0)] (by decide +kernel) rfl ?_
    refine s_gR fl_6_25 rfl (by decide +kernel) (fun v3 => ?_)
    refine s_run (b := [(.aload_n 1, 1), (.aload_n 1, 1)]) 20 [some (.inr (.inr x0)), some (.inr (.inr x1)), some (.inl x2), some (.inl x3), some (.inl x4)] [.inr (.inr x1), .inr (.inr x1), .inr (.inr v3)] (by decide +kernel) rfl ?_
    refine s_gR fl_6_81 rfl (by decide +kernel) (fun v4 => ?_)
    refine s_run (b := [(.iload 4, 2)]) 25 [some (.inr (.inr x0)), some (.inr (.inr x1)), some (.inl x2), some (.inl x3), some (.inl x4)] [.inl x4, .inr (.inr v4), .inr (.inr x1), .inr (.inr v3)] (by decide +kernel) rfl ?_
    refine s_ia (by decide +kernel) (fun v5 => ?_)
    refine s_run (b := [(.aload_n 1, 1)]) 27 [some (.inr (.inr x0)), some (.inr (.inr x1)), some (.inl x2), some (.inl x3), some (.inl x4)] [.inr (.inr x1), .inl v5, .inr (.inr x1), .inr (.inr v3)] (by decide +kernel) rfl ?_
    refine s_cV (Z := Y_X5_everybody) (c := 5) (vs := []) (st := [.inl v5, .inr (.inr x1), .inr (.inr v3)]) (rO := fun z => some (.inl z)) (mO := fun _ => M) zk_X5_everybody zi_X5_everybody q858 rfl ⟨by decide, by decide⟩ ⟨rfl, rfl⟩ rfl rfl (Nat.le_of_ble_eq_true rfl) (by decide +kernel) (fun z hz => c_X5_everybody hz) (fun v6 => ?_)
    change Sim l G Y_X6_gotWithout lim _ _ 30 [some (.inr (.inr x0)), some (.inr (.inr x1)), some (.inl x2), some (.inl x3), some (.inl x4)] [.inl v6, .inl v5, .inr (.inr x1), .inr (.inr v3)] M
    refine s_run (b := [(.iload_n 2, 1), (.iconst (-1), 1), (.ixor, 1), (.iand, 1)]) 34 [some (.inr (.inr x0)), some (.inr (.inr x1)), some (.inl x2), some (.inl x3), some (.inl x4)] [.inl (v6 &&& (x2 ^^^ (-1 : Int32))), .inl v5, .inr (.inr x1), .inr (.inr v3)] (by decide +kernel) rfl ?_
    refine s_gsN (j := 0) (by decide) (List.mem_of_getElem? (i := 16) rfl) (by decide +kernel) ?_
    change Sim l G Y_X6_gotWithout lim _ _ 37 [some (.inr (.inr x0)), some (.inr (.inr x1)), some (.inl x2), some (.inl x3), some (.inl x4)] [.inr (.inr 1000), .inl (v6 &&& (x2 ^^^ (-1 : Int32))), .inl v5, .inr (.inr x1), .inr (.inr v3)] M
    refine s_cV (Z := Y_X3_asTold) (c := 3) (vs := [.inr (.inr x1), .inl v5, .inl (v6 &&& (x2 ^^^ (-1 : Int32))), .inr (.inr 1000)]) (st := []) (rO := fun _ => none) (mO := fun z => z) zk_X3_asTold zi_X3_asTold q865 rfl ⟨by decide, by decide⟩ ⟨rfl, rfl⟩ rfl rfl (Nat.le_of_ble_eq_true rfl) (by decide +kernel) (fun z hz => c_X3_asTold hz) (fun z7 => ?_)
    change Sim l G Y_X6_gotWithout lim _ _ 40 [some (.inr (.inr x0)), some (.inr (.inr x1)), some (.inl x2), some (.inl x3), some (.inl x4)] [] z7
    refine s_run (b := [(.iload_n 3, 1), (.aload_n 1, 1), (.iload 4, 2), (.aload_n 0, 1)]) 45 [some (.inr (.inr x0)), some (.inr (.inr x1)), some (.inl x2), some (.inl x3), some (.inl x4)] [.inr (.inr x0), .inl x4, .inr (.inr x1), .inl x3] (by decide +kernel) rfl ?_
    refine s_gR fl_6_25 rfl (by decide +kernel) (fun v8 => ?_)
    refine s_gI fl_6_84 rfl (by decide +kernel) (fun v9 => ?_)
    refine s_cV (Z := Y_X5_gotAt) (c := 5) (vs := [.inl x4, .inl v9]) (st := [.inl x3]) (rO := fun z => some (.inl z)) (mO := fun _ => z7) zk_X5_gotAt zi_X5_gotAt q1065 rfl ⟨by decide, by decide⟩ ⟨rfl, rfl⟩ rfl rfl (Nat.le_of_ble_eq_true rfl) (by decide +kernel) (fun z hz => c_X5_gotAt hz) (fun v10 => ?_)
    change Sim l G Y_X6_gotWithout lim _ _ 54 [some (.inr (.inr x0)), some (.inr (.inr x1)), some (.inl x2), some (.inl x3), some (.inl x4)] [.inl v10, .inl x3] z7
    refine s_run (b := [(.iadd, 1), (.istore_n 3, 1), (.iinc 4 1, 3), (.goto (-54), 3)]) 5 [some (.inr (.inr x0)), some (.inr (.inr x1)), some (.inl x2), some (.inl (x3 + v10)), some (.inl (x4 + (1 : Int32)))] [] (by decide +kernel) rfl ?_
    exact s_lsub (ls' := [some (.inr (.inr x0)), some (.inr (.inr x1)), some (.inl x2), some (.inl (x3 + v10)), some (.inl (x4 + (1 : Int32)))]) ⟨rfl, ⟨rfl, ⟨rfl, ⟨rfl, ⟨rfl, trivial⟩⟩⟩⟩⟩ (kk1 (x3 + v10) (x4 + (1 : Int32)) z7)
set_option maxRecDepth 20000 in
theorem L_X6_gotWithout_5 {l : Launch} {G : Gv} {lim : Nat × Nat} (M : Mem) (x0 : Nat) (x1 : Nat) (x2 : Int32) (x3 : Int32) (x4 : Int32) (K : ((Int32 × Mem)) → Option (Option Value × Mem)) (kk2_0 : ∀ r : Int32 × Mem, SimR l G Y_X6_gotWithout lim (K r) 62 [none, none, none, some (.inl r.1), none] [] r.2) : Sim l G Y_X6_gotWithout lim (f_X6_gotWithout_L5 M x0 x1 x2 x3 x4) K 5 [some (.inr (.inr x0)), some (.inr (.inr x1)), some (.inl x2), some (.inl x3), some (.inl x4)] [] M :=
  s_iter (f := fun s : Int32 × Int32 × Mem => f_X6_gotWithout_B5 s.2.2 x0 x1 x2 s.1 s.2.1) (hd := 5) (cl := fun s => [some (.inr (.inr x0)), some (.inr (.inr x1)), some (.inl x2), some (.inl s.1), some (.inl s.2.1)]) (cm := fun s => s.2.2) (xp := fun _ => 62) (xl := fun r => [none, none, none, some (.inl r.1), none]) (xm := fun r => r.2) (fun s K h1 h2 => B_X6_gotWithout_5 s.2.2 x0 x1 x2 s.1 s.2.1 K (fun a3 a4 a_ => h1 (a3, a4, a_)) (fun a3 a_ => h2 (a3, a_))) 1048576 (x3, x4, M) K kk2_0
def f_X6_gotWithout (M : Mem) (x0 : Nat) (x1 : Nat) (x2 : Int32) : Option (Int32 × Mem) :=
  (f_X6_gotWithout_L5 M x0 x1 x2 (0 : Int32) (0 : Int32)).bind fun r1 =>
  some (r1.1, r1.2)
set_option maxRecDepth 20000 in
theorem S_X6_gotWithout {l : Launch} {G : Gv} {lim : Nat × Nat} (M : Mem) (x0 : Nat) (x1 : Nat) (x2 : Int32) : Sim l G Y_X6_gotWithout lim (f_X6_gotWithout M x0 x1 x2) (fun z => some (some (.int z.1), z.2)) 0 [some (.inr (.inr x0)), some (.inr (.inr x1)), some (.inl x2), none, none] [] M := by
  unfold f_X6_gotWithout
  refine s_run (b := [(.iconst 0, 1), (.istore_n 3, 1), (.iconst 0, 1), (.istore 4, 2)]) 5 [some (.inr (.inr x0)), some (.inr (.inr x1)), some (.inl x2), some (.inl (0 : Int32)), some (.inl (0 : Int32))] [] (by decide +kernel) rfl ?_
  refine s_lsub (ls' := [some (.inr (.inr x0)), some (.inr (.inr x1)), some (.inl x2), some (.inl (0 : Int32)), some (.inl (0 : Int32))]) ⟨rfl, ⟨rfl, ⟨rfl, ⟨rfl, ⟨rfl, trivial⟩⟩⟩⟩⟩ ?_
  refine sim_bind (L_X6_gotWithout_5 M x0 x1 x2 (0 : Int32) (0 : Int32) _ (fun r1 => ?_))
  change Sim l G Y_X6_gotWithout lim _ _ 62 [none, none, none, some (.inl r1.1), none] [] r1.2
  refine s_run (b := [(.iload_n 3, 1)]) 63 [none, none, none, some (.inl r1.1), none] [.inl r1.1] (by decide +kernel) rfl ?_
  exact s_iret (by decide +kernel) rfl
set_option maxRecDepth 20000 in
theorem c_X6_gotWithout {l : Launch} {G : Gv} {M : Mem} {x0 : Nat} {x1 : Nat} {x2 : Int32} {z : Int32 × Mem} (h : f_X6_gotWithout M x0 x1 x2 = some z) : MetS l G Y_X6_gotWithout [.inr (.inr x0), .inr (.inr x1), .inl x2] M (some (.int z.1)) z.2 :=
  met_of (ls0 := [some (.inr (.inr x0)), some (.inr (.inr x1)), some (.inl x2), none, none]) (by decide) rfl (lv_in (m := 2) rfl) (sl_le (Nat.le_of_ble_eq_true rfl)) (by rw [h]; rfl) (Or.inl ⟨rfl, rfl⟩) (S_X6_gotWithout M x0 x1 x2)
def f_X6_planLunch_B12 (M : Mem) (x0 : Nat) (x1 : Nat) (x2 : Int32) (x3 : Int32) : Option ((Int32 × Mem) ⊕ ((Mem))) :=
  (ob M 5 x1).bind fun _ => (f_X5_everybody M x1).bind fun v1 =>
  (if v1 < x3 then
    some (.inr M)
  else
    (f_J6_bitCount_0f7a4 M x3).bind fun v3 =>
    (if v3 = x2 then
      (ob M 6 x0).bind fun _ => (f_X6_gotWithout M x0 x1 x3).bind fun z5 =>
      (gI z5.2 6 x0 0).bind fun v6 =>
      (if z5.1 ≤ v6 then
        some (.inl ((x3 + (1 : Int32)), z5.2))
      else
        (pI z5.2 6 x0 0 z5.1).bind fun M8 =>
        (pI M8 6 x0 1 x3).bind fun M9 =>
        some (.inl ((x3 + (1 : Int32)), M9)))
    else
      some (.inl ((x3 + (1 : Int32)), M))))
def f_X6_planLunch_L12 (M : Mem) (x0 : Nat) (x1 : Nat) (x2 : Int32) (x3 : Int32) : Option ((Mem)) := iter (fun s : Int32 × Mem => f_X6_planLunch_B12 s.2 x0 x1 x2 s.1) 1048576 (x3, M)
set_option maxRecDepth 20000 in
theorem B_X6_planLunch_12 {l : Launch} {G : Gv} {lim : Nat × Nat} (M : Mem) (x0 : Nat) (x1 : Nat) (x2 : Int32) (x3 : Int32) (K : (Int32 × Mem) ⊕ ((Mem)) → Option (Option Value × Mem)) (kk1 : ∀ (s3 : Int32) (s_ : Mem), SimR l G Y_X6_planLunch lim (K (.inl (s3, s_))) 12 [some (.inr (.inr x0)), some (.inr (.inr x1)), some (.inl x2), some (.inl s3), none] [] s_) (kk2_0 : ∀ (s_ : Mem), SimR l G Y_X6_planLunch lim (K (.inr s_)) 62 [none, none, none, none, none] [] s_) : Sim l G Y_X6_planLunch lim (f_X6_planLunch_B12 M x0 x1 x2 x3) K 12 [some (.inr (.inr x0)), some (.inr (.inr x1)), some (.inl x2), some (.inl x3), none] [] M := by
  unfold f_X6_planLunch_B12
  refine s_run (b := [(.iload_n 3, 1), (.aload_n 1, 1)]) 14 [some (.inr (.inr x0)), some (.inr (.inr x1)), some (.inl x2), some (.inl x3), none] [.inr (.inr x1), .inl x3] (by decide +kernel) rfl ?_
  refine s_cV (Z := Y_X5_everybody) (c := 5) (vs := []) (st := [.inl x3]) (rO := fun z => some (.inl z)) (mO := fun _ => M) zk_X5_everybody zi_X5_everybody q858 rfl ⟨by decide, by decide⟩ ⟨rfl, rfl⟩ rfl rfl (Nat.le_of_ble_eq_true rfl) (by decide +kernel) (fun z hz => c_X5_everybody hz) (fun v1 => ?_)
  change Sim l G Y_X6_planLunch lim _ _ 17 [some (.inr (.inr x0)), some (.inr (.inr x1)), some (.inl x2), some (.inl x3), none] [.inl v1, .inl x3] M
  refine s_ic_gt (tgt := 62) (off := 45) (by decide +kernel) (by decide) (fun h2 => ?_) (fun h2 => ?_)
  · skip
    exact s_lsub (ls' := [none, none, none, none, none]) trivial (kk2_0 M)
  · skip
    refine s_run (b := [(.iload_n 3, 1)]) 21 [some (.inr (.inr x0)), some (.inr (.inr x1)), some (.inl x2), some (.inl x3), none] [.inl x3] (by decide +kernel) rfl ?_
    refine s_cS (Z := Y_J6_bitCount_0f7a4) (vs := [.inl x3]) (st := []) (rO := fun z => some (.inl z)) (mO := fun _ => M) zk_J6_bitCount_0f7a4 q819 q859 ⟨by decide, by decide⟩ ⟨rfl, rfl⟩ rfl rfl (Nat.le_of_ble_eq_true rfl) (by decide +kernel) (fun z hz => c_J6_bitCount_0f7a4 hz) (fun v3 => ?_)
    change Sim l G Y_X6_planLunch lim _ _ 24 [some (.inr (.inr x0)), some (.inr (.inr x1)), some (.inl x2), some (.inl x3), none] [.inl v3] M
    refine s_run (b := [(.iload_n 2, 1)]) 25 [some (.inr (.inr x0)), some (.inr (.inr x1)), some (.inl x2), some (.inl x3), none] [.inl x2, .inl v3] (by decide +kernel) rfl ?_
    refine s_ic_ne (tgt := 56) (off := 31) (by decide +kernel) (by decide) (fun h4 => ?_) (fun h4 => ?_)
    · skip
      refine s_run (b := [(.aload_n 0, 1), (.aload_n 1, 1), (.iload_n 3, 1)]) 31 [some (.inr (.inr x0)), some (.inr (.inr x1)), some (.inl x2), some (.inl x3), none] [.inl x3, .inr (.inr x1), .inr (.inr x0)] (by decide +kernel) rfl ?_
      refine s_cV (Z := Y_X6_gotWithout) (c := 6) (vs := [.inr (.inr x1), .inl x3]) (st := []) (rO := fun z => some (.inl z.1)) (mO := fun z => z.2) zk_X6_gotWithout zi_X6_gotWithout q1061 rfl ⟨by decide, by decide⟩ ⟨rfl, rfl⟩ rfl rfl (Nat.le_of_ble_eq_true rfl) (by decide +kernel) (fun z hz => c_X6_gotWithout hz) (fun z5 => ?_)
      change Sim l G Y_X6_planLunch lim _ _ 34 [some (.inr (.inr x0)), some (.inr (.inr x1)), some (.inl x2), some (.inl x3), none] [.inl z5.1] z5.2
      refine s_run (b := [(.istore 4, 2), (.iload 4, 2), (.aload_n 0, 1)]) 39 [some (.inr (.inr x0)), some (.inr (.inr x1)), some (.inl x2), some (.inl x3), some (.inl z5.1)] [.inr (.inr x0), .inl z5.1] (by decide +kernel) rfl ?_
      refine s_gI fl_6_68 rfl (by decide +kernel) (fun v6 => ?_)
      refine s_ic_le (tgt := 56) (off := 14) (by decide +kernel) (by decide) (fun h7 => ?_) (fun h7 => ?_)
      · skip
        refine s_run (b := [(.iinc 3 1, 3), (.goto (-47), 3)]) 12 [some (.inr (.inr x0)), some (.inr (.inr x1)), some (.inl x2), some (.inl (x3 + (1 : Int32))), some (.inl z5.1)] [] (by decide +kernel) rfl ?_
        exact s_lsub (ls' := [some (.inr (.inr x0)), some (.inr (.inr x1)), some (.inl x2), some (.inl (x3 + (1 : Int32))), none]) ⟨rfl, ⟨rfl, ⟨rfl, ⟨rfl, trivial⟩⟩⟩⟩ (kk1 (x3 + (1 : Int32)) z5.2)
      · skip
        refine s_run (b := [(.aload_n 0, 1), (.iload 4, 2)]) 48 [some (.inr (.inr x0)), some (.inr (.inr x1)), some (.inl x2), some (.inl x3), some (.inl z5.1)] [.inl z5.1, .inr (.inr x0)] (by decide +kernel) rfl ?_
        refine s_pI fl_6_68 (Or.inl rfl) rfl (by decide +kernel) (fun M8 => ?_)
        refine s_run (b := [(.aload_n 0, 1), (.iload_n 3, 1)]) 53 [some (.inr (.inr x0)), some (.inr (.inr x1)), some (.inl x2), some (.inl x3), some (.inl z5.1)] [.inl x3, .inr (.inr x0)] (by decide +kernel) rfl ?_
        refine s_pI fl_6_71 (Or.inl rfl) rfl (by decide +kernel) (fun M9 => ?_)
        refine s_run (b := [(.iinc 3 1, 3), (.goto (-47), 3)]) 12 [some (.inr (.inr x0)), some (.inr (.inr x1)), some (.inl x2), some (.inl (x3 + (1 : Int32))), some (.inl z5.1)] [] (by decide +kernel) rfl ?_
        exact s_lsub (ls' := [some (.inr (.inr x0)), some (.inr (.inr x1)), some (.inl x2), some (.inl (x3 + (1 : Int32))), none]) ⟨rfl, ⟨rfl, ⟨rfl, ⟨rfl, trivial⟩⟩⟩⟩ (kk1 (x3 + (1 : Int32)) M9)
    · skip
      refine s_run (b := [(.iinc 3 1, 3), (.goto (-47), 3)]) 12 [some (.inr (.inr x0)), some (.inr (.inr x1)), some (.inl x2), some (.inl (x3 + (1 : Int32))), none] [] (by decide +kernel) rfl ?_
      exact s_lsub (ls' := [some (.inr (.inr x0)), some (.inr (.inr x1)), some (.inl x2), some (.inl (x3 + (1 : Int32))), none]) ⟨rfl, ⟨rfl, ⟨rfl, ⟨rfl, trivial⟩⟩⟩⟩ (kk1 (x3 + (1 : Int32)) M)
set_option maxRecDepth 20000 in
theorem L_X6_planLunch_12 {l : Launch} {G : Gv} {lim : Nat × Nat} (M : Mem) (x0 : Nat) (x1 : Nat) (x2 : Int32) (x3 : Int32) (K : ((Mem)) → Option (Option Value × Mem)) (kk2_0 : ∀ r : Mem, SimR l G Y_X6_planLunch lim (K r) 62 [none, none, none, none, none] [] r) : Sim l G Y_X6_planLunch lim (f_X6_planLunch_L12 M x0 x1 x2 x3) K 12 [some (.inr (.inr x0)), some (.inr (.inr x1)), some (.inl x2), some (.inl x3), none] [] M :=
  s_iter (f := fun s : Int32 × Mem => f_X6_planLunch_B12 s.2 x0 x1 x2 s.1) (hd := 12) (cl := fun s => [some (.inr (.inr x0)), some (.inr (.inr x1)), some (.inl x2), some (.inl s.1), none]) (cm := fun s => s.2) (xp := fun _ => 62) (xl := fun r => [none, none, none, none, none]) (xm := fun r => r) (fun s K h1 h2 => B_X6_planLunch_12 s.2 x0 x1 x2 s.1 K (fun a3 a_ => h1 (a3, a_)) (fun a_ => h2 a_)) 1048576 (x3, M) K kk2_0
def f_X6_planLunch (M : Mem) (x0 : Nat) (x1 : Nat) (x2 : Int32) : Option (Mem) :=
  (pI M 6 x0 0 (-1 : Int32)).bind fun M1 =>
  (pI M1 6 x0 1 (0 : Int32)).bind fun M2 =>
  (f_X6_planLunch_L12 M2 x0 x1 x2 (0 : Int32)).bind fun r3 =>
  some r3
set_option maxRecDepth 20000 in
theorem S_X6_planLunch {l : Launch} {G : Gv} {lim : Nat × Nat} (M : Mem) (x0 : Nat) (x1 : Nat) (x2 : Int32) : Sim l G Y_X6_planLunch lim (f_X6_planLunch M x0 x1 x2) (fun z => some (none, z)) 0 [some (.inr (.inr x0)), some (.inr (.inr x1)), some (.inl x2), none, none] [] M := by
  unfold f_X6_planLunch
  refine s_run (b := [(.aload_n 0, 1), (.iconst (-1), 1)]) 2 [some (.inr (.inr x0)), some (.inr (.inr x1)), some (.inl x2), none, none] [.inl (-1 : Int32), .inr (.inr x0)] (by decide +kernel) rfl ?_
  refine s_pI fl_6_68 (Or.inl rfl) rfl (by decide +kernel) (fun M1 => ?_)
  refine s_run (b := [(.aload_n 0, 1), (.iconst 0, 1)]) 7 [some (.inr (.inr x0)), some (.inr (.inr x1)), some (.inl x2), none, none] [.inl (0 : Int32), .inr (.inr x0)] (by decide +kernel) rfl ?_
  refine s_pI fl_6_71 (Or.inl rfl) rfl (by decide +kernel) (fun M2 => ?_)
  refine s_run (b := [(.iconst 0, 1), (.istore_n 3, 1)]) 12 [some (.inr (.inr x0)), some (.inr (.inr x1)), some (.inl x2), some (.inl (0 : Int32)), none] [] (by decide +kernel) rfl ?_
  refine s_lsub (ls' := [some (.inr (.inr x0)), some (.inr (.inr x1)), some (.inl x2), some (.inl (0 : Int32)), none]) ⟨rfl, ⟨rfl, ⟨rfl, ⟨rfl, trivial⟩⟩⟩⟩ ?_
  refine sim_bind (L_X6_planLunch_12 M2 x0 x1 x2 (0 : Int32) _ (fun r3 => ?_))
  change Sim l G Y_X6_planLunch lim _ _ 62 [none, none, none, none, none] [] r3
  exact s_vret (by decide +kernel) rfl
set_option maxRecDepth 20000 in
theorem c_X6_planLunch {l : Launch} {G : Gv} {M : Mem} {x0 : Nat} {x1 : Nat} {x2 : Int32} {z : Mem} (h : f_X6_planLunch M x0 x1 x2 = some z) : MetS l G Y_X6_planLunch [.inr (.inr x0), .inr (.inr x1), .inl x2] M none z :=
  met_of (ls0 := [some (.inr (.inr x0)), some (.inr (.inr x1)), some (.inl x2), none, none]) (by decide) rfl (lv_in (m := 2) rfl) (sl_le (Nat.le_of_ble_eq_true rfl)) (by rw [h]; rfl) (Or.inl ⟨rfl, rfl⟩) (S_X6_planLunch M x0 x1 x2)
def f_X11_lunch (M : Mem) (x0 : Nat) (x1 : Int32) (x2 : Int32) (x3 : Int32) : Option (Int32 × Mem) :=
  (gR M 11 x0 0).bind fun v1 =>
  (ob M 9 v1).bind fun _ => (f_X9_officeAt M v1 x1).bind fun v2 =>
  (if v2 = 0 then
    some ((-1 : Int32), M)
  else
    (if x2 < 0 then
      some ((-1 : Int32), M)
    else
      (gI M 5 v2 0).bind fun v5 =>
      (if x2 ≤ v5 then
        (gR M 11 x0 9).bind fun v7 =>
        (ob M 6 v7).bind fun _ => (f_X6_planLunch M v7 v2 x2).bind fun z8 =>
        (if x3 = 0 then
          (gR z8 11 x0 9).bind fun v10 =>
          (gI z8 6 v10 0).bind fun v11 =>
          some (v11, z8)
        else
          (gR z8 11 x0 9).bind fun v12 =>
          (gI z8 6 v12 1).bind fun v13 =>
          some (v13, z8))
      else
        some ((-1 : Int32), M))))
set_option maxRecDepth 20000 in
theorem S_X11_lunch {l : Launch} {G : Gv} {lim : Nat × Nat} (M : Mem) (x0 : Nat) (x1 : Int32) (x2 : Int32) (x3 : Int32) : Sim l G Y_X11_lunch lim (f_X11_lunch M x0 x1 x2 x3) (fun z => some (some (.int z.1), z.2)) 0 [some (.inr (.inr x0)), some (.inl x1), some (.inl x2), some (.inl x3), none] [] M := by
  unfold f_X11_lunch
  refine s_run (b := [(.aload_n 0, 1)]) 1 [some (.inr (.inr x0)), some (.inl x1), some (.inl x2), some (.inl x3), none] [.inr (.inr x0)] (by decide +kernel) rfl ?_
  refine s_gR fl_11_10 rfl (by decide +kernel) (fun v1 => ?_)
  refine s_run (b := [(.iload_n 1, 1)]) 5 [some (.inr (.inr x0)), some (.inl x1), some (.inl x2), some (.inl x3), none] [.inl x1, .inr (.inr v1)] (by decide +kernel) rfl ?_
  refine s_cV (Z := Y_X9_officeAt) (c := 9) (vs := [.inl x1]) (st := []) (rO := fun z => some (.inr (.inr z))) (mO := fun _ => M) zk_X9_officeAt zi_X9_officeAt q716 rfl ⟨by decide, by decide⟩ ⟨rfl, rfl⟩ rfl rfl (Nat.le_of_ble_eq_true rfl) (by decide +kernel) (fun z hz => c_X9_officeAt hz) (fun v2 => ?_)
  change Sim l G Y_X11_lunch lim _ _ 8 [some (.inr (.inr x0)), some (.inl x1), some (.inl x2), some (.inl x3), none] [.inr (.inr v2)] M
  refine s_run (b := [(.astore 4, 2), (.aload 4, 2)]) 12 [some (.inr (.inr x0)), some (.inl x1), some (.inl x2), some (.inl x3), some (.inr (.inr v2))] [.inr (.inr v2)] (by decide +kernel) rfl ?_
  refine s_ifnull (tgt := 28) (off := 16) (by decide +kernel) (by decide) (fun h3 => ?_) (fun h3 => ?_)
  · skip
    refine s_run (b := [(.iconst (-1), 1)]) 29 [some (.inr (.inr x0)), some (.inl x1), some (.inl x2), some (.inl x3), some (.inr (.inr v2))] [.inl (-1 : Int32)] (by decide +kernel) rfl ?_
    exact s_iret (by decide +kernel) rfl
  · skip
    refine s_run (b := [(.iload_n 2, 1)]) 16 [some (.inr (.inr x0)), some (.inl x1), some (.inl x2), some (.inl x3), some (.inr (.inr v2))] [.inl x2] (by decide +kernel) rfl ?_
    refine s_if_lt (tgt := 28) (off := 12) (by decide +kernel) (by decide) (fun h4 => ?_) (fun h4 => ?_)
    · skip
      refine s_run (b := [(.iconst (-1), 1)]) 29 [some (.inr (.inr x0)), some (.inl x1), some (.inl x2), some (.inl x3), some (.inr (.inr v2))] [.inl (-1 : Int32)] (by decide +kernel) rfl ?_
      exact s_iret (by decide +kernel) rfl
    · skip
      refine s_run (b := [(.iload_n 2, 1), (.aload 4, 2)]) 22 [some (.inr (.inr x0)), some (.inl x1), some (.inl x2), some (.inl x3), some (.inr (.inr v2))] [.inr (.inr v2), .inl x2] (by decide +kernel) rfl ?_
      refine s_gI fl_11_214 rfl (by decide +kernel) (fun v5 => ?_)
      refine s_ic_le (tgt := 30) (off := 5) (by decide +kernel) (by decide) (fun h6 => ?_) (fun h6 => ?_)
      · skip
        refine s_run (b := [(.aload_n 0, 1)]) 31 [some (.inr (.inr x0)), some (.inl x1), some (.inl x2), some (.inl x3), some (.inr (.inr v2))] [.inr (.inr x0)] (by decide +kernel) rfl ?_
        refine s_gR fl_11_69 rfl (by decide +kernel) (fun v7 => ?_)
        refine s_run (b := [(.aload 4, 2), (.iload_n 2, 1)]) 37 [some (.inr (.inr x0)), some (.inl x1), some (.inl x2), some (.inl x3), some (.inr (.inr v2))] [.inl x2, .inr (.inr v2), .inr (.inr v7)] (by decide +kernel) rfl ?_
        refine s_cV (Z := Y_X6_planLunch) (c := 6) (vs := [.inr (.inr v2), .inl x2]) (st := []) (rO := fun _ => none) (mO := fun z => z) zk_X6_planLunch zi_X6_planLunch q1057 rfl ⟨by decide, by decide⟩ ⟨rfl, rfl⟩ rfl rfl (Nat.le_of_ble_eq_true rfl) (by decide +kernel) (fun z hz => c_X6_planLunch hz) (fun z8 => ?_)
        change Sim l G Y_X11_lunch lim _ _ 40 [some (.inr (.inr x0)), some (.inl x1), some (.inl x2), some (.inl x3), some (.inr (.inr v2))] [] z8
        refine s_run (b := [(.iload_n 3, 1)]) 41 [some (.inr (.inr x0)), some (.inl x1), some (.inl x2), some (.inl x3), some (.inr (.inr v2))] [.inl x3] (by decide +kernel) rfl ?_
        refine s_if_eq (tgt := 54) (off := 13) (by decide +kernel) (by decide) (fun h9 => ?_) (fun h9 => ?_)
        · skip
          refine s_run (b := [(.aload_n 0, 1)]) 55 [some (.inr (.inr x0)), some (.inl x1), some (.inl x2), some (.inl x3), some (.inr (.inr v2))] [.inr (.inr x0)] (by decide +kernel) rfl ?_
          refine s_gR fl_11_69 rfl (by decide +kernel) (fun v10 => ?_)
          refine s_gI fl_11_224 rfl (by decide +kernel) (fun v11 => ?_)
          exact s_iret (by decide +kernel) rfl
        · skip
          refine s_run (b := [(.aload_n 0, 1)]) 45 [some (.inr (.inr x0)), some (.inl x1), some (.inl x2), some (.inl x3), some (.inr (.inr v2))] [.inr (.inr x0)] (by decide +kernel) rfl ?_
          refine s_gR fl_11_69 rfl (by decide +kernel) (fun v12 => ?_)
          refine s_gI fl_11_221 rfl (by decide +kernel) (fun v13 => ?_)
          refine s_run (b := [(.goto 10, 3)]) 61 [some (.inr (.inr x0)), some (.inl x1), some (.inl x2), some (.inl x3), some (.inr (.inr v2))] [.inl v13] (by decide +kernel) rfl ?_
          exact s_iret (by decide +kernel) rfl
      · skip
        refine s_run (b := [(.iconst (-1), 1)]) 29 [some (.inr (.inr x0)), some (.inl x1), some (.inl x2), some (.inl x3), some (.inr (.inr v2))] [.inl (-1 : Int32)] (by decide +kernel) rfl ?_
        exact s_iret (by decide +kernel) rfl
set_option maxRecDepth 20000 in
theorem c_X11_lunch {l : Launch} {G : Gv} {M : Mem} {x0 : Nat} {x1 : Int32} {x2 : Int32} {x3 : Int32} {z : Int32 × Mem} (h : f_X11_lunch M x0 x1 x2 x3 = some z) : MetS l G Y_X11_lunch [.inr (.inr x0), .inl x1, .inl x2, .inl x3] M (some (.int z.1)) z.2 :=
  met_of (ls0 := [some (.inr (.inr x0)), some (.inl x1), some (.inl x2), some (.inl x3), none]) (by decide) rfl (lv_in (m := 1) rfl) (sl_le (Nat.le_of_ble_eq_true rfl)) (by rw [h]; rfl) (Or.inl ⟨rfl, rfl⟩) (S_X11_lunch M x0 x1 x2 x3)
def f_X0_reckonCall_J90 (M : Mem) (x0 : Nat) (x1 : Nat) (x2 : Int32) (x3 : Int32) (x4 : Int32) (x5 : Int64) (y0 : Int32) : Option ((Int32 × Mem) ⊕ ((Mem))) :=
  (gL M 0 x0 0).bind fun v1 =>
  (pL M 0 x0 0 (v1 + (x5 * (Int32.toInt64 y0)))).bind fun M2 =>
  some (.inl ((x4 + (1 : Int32)), M2))
set_option maxRecDepth 20000 in
theorem J_X0_reckonCall_90 {l : Launch} {G : Gv} {lim : Nat × Nat} (M : Mem) (x0 : Nat) (x1 : Nat) (x2 : Int32) (x3 : Int32) (x4 : Int32) (x5 : Int64) (y0 : Int32) (K : (Int32 × Mem) ⊕ ((Mem)) → Option (Option Value × Mem)) (kk1 : ∀ (s4 : Int32) (s_ : Mem), SimR l G Y_X0_reckonCall lim (K (.inl (s4, s_))) 8 [some (.inr (.inr x0)), some (.inr (.inr x1)), some (.inl x2), some (.inl x3), some (.inl s4), none, none, none] [] s_) (kk2_0 : ∀ (s_ : Mem), SimR l G Y_X0_reckonCall lim (K (.inr s_)) 113 [some (.inr (.inr x0)), some (.inr (.inr x1)), none, none, none, none, none, none] [] s_) : Sim l G Y_X0_reckonCall lim (f_X0_reckonCall_J90 M x0 x1 x2 x3 x4 x5 y0) K 90 [some (.inr (.inr x0)), some (.inr (.inr x1)), some (.inl x2), some (.inl x3), some (.inl x4), some (.inr (.inl x5)), none, none] [.inl y0] M := by
  unfold f_X0_reckonCall_J90
  refine s_run (b := [(.istore 7, 2), (.aload_n 0, 1), (.dup, 1)]) 94 [some (.inr (.inr x0)), some (.inr (.inr x1)), some (.inl x2), some (.inl x3), some (.inl x4), some (.inr (.inl x5)), none, some (.inl y0)] [.inr (.inr x0), .inr (.inr x0)] (by decide +kernel) rfl ?_
  refine s_gL fl_0_26 rfl (by decide +kernel) (fun v1 => ?_)
  refine s_run (b := [(.lload 5, 2), (.iload 7, 2), (.i2l, 1), (.lmul, 1), (.ladd, 1)]) 104 [some (.inr (.inr x0)), some (.inr (.inr x1)), some (.inl x2), some (.inl x3), some (.inl x4), some (.inr (.inl x5)), none, some (.inl y0)] [.inr (.inl (v1 + (x5 * (Int32.toInt64 y0)))), .inr (.inr x0)] (by decide +kernel) rfl ?_
  refine s_pL fl_0_26 (Or.inl rfl) rfl (by decide +kernel) (fun M2 => ?_)
  refine s_run (b := [(.iinc 4 1, 3), (.goto (-102), 3)]) 8 [some (.inr (.inr x0)), some (.inr (.inr x1)), some (.inl x2), some (.inl x3), some (.inl (x4 + (1 : Int32))), some (.inr (.inl x5)), none, some (.inl y0)] [] (by decide +kernel) rfl ?_
  exact s_lsub (ls' := [some (.inr (.inr x0)), some (.inr (.inr x1)), some (.inl x2), some (.inl x3), some (.inl (x4 + (1 : Int32))), none, none, none]) ⟨rfl, ⟨rfl, ⟨rfl, ⟨rfl, ⟨rfl, trivial⟩⟩⟩⟩⟩ (kk1 (x4 + (1 : Int32)) M2)
def f_X0_reckonCall_B8 (M : Mem) (x0 : Nat) (x1 : Nat) (x2 : Int32) (x3 : Int32) (x4 : Int32) : Option ((Int32 × Mem) ⊕ ((Mem))) :=
  (ob M 5 x1).bind fun _ => (f_X5_everybody M x1).bind fun v1 =>
  (if v1 < x4 then
    some (.inr M)
  else
    (f_X0_weightOf M x1 x4).bind fun v3 =>
    (if (lg_cmp v3 (0 : Int64)) ≤ 0 then
      some (.inl ((x4 + (1 : Int32)), M))
    else
      (gR M 0 x0 3).bind fun v5 =>
      (gR M 5 x1 10).bind fun v6 =>
      (aI M 0 v6 x2).bind fun v7 =>
      (ob M 3 v5).bind fun _ => (f_X3_asTold M v5 x1 v7 x4 1000).bind fun z8 =>
      (if x3 = 0 then
        (gR z8 0 x0 3).bind fun v10 =>
        (gI z8 3 v10 1).bind fun v11 =>
        (ob z8 5 x1).bind fun _ => (f_X5_inTime z8 x1 x2 v11).bind fun v12 =>
        (if v12 = 0 then
          f_X0_reckonCall_J90 z8 x0 x1 x2 x3 x4 v3 (0 : Int32)
        else
          f_X0_reckonCall_J90 z8 x0 x1 x2 x3 x4 v3 (1 : Int32))
      else
        (gR z8 0 x0 3).bind fun v14 =>
        (gI z8 3 v14 1).bind fun v15 =>
        (ob z8 5 x1).bind fun _ => (f_X5_gotAt z8 x1 x2 v15).bind fun v16 =>
        f_X0_reckonCall_J90 z8 x0 x1 x2 x3 x4 v3 v16)))
def f_X0_reckonCall_L8 (M : Mem) (x0 : Nat) (x1 : Nat) (x2 : Int32) (x3 : Int32) (x4 : Int32) : Option ((Mem)) := iter (fun s : Int32 × Mem => f_X0_reckonCall_B8 s.2 x0 x1 x2 x3 s.1) 1048576 (x4, M)
set_option maxRecDepth 20000 in
theorem B_X0_reckonCall_8 {l : Launch} {G : Gv} {lim : Nat × Nat} (M : Mem) (x0 : Nat) (x1 : Nat) (x2 : Int32) (x3 : Int32) (x4 : Int32) (K : (Int32 × Mem) ⊕ ((Mem)) → Option (Option Value × Mem)) (kk1 : ∀ (s4 : Int32) (s_ : Mem), SimR l G Y_X0_reckonCall lim (K (.inl (s4, s_))) 8 [some (.inr (.inr x0)), some (.inr (.inr x1)), some (.inl x2), some (.inl x3), some (.inl s4), none, none, none] [] s_) (kk2_0 : ∀ (s_ : Mem), SimR l G Y_X0_reckonCall lim (K (.inr s_)) 113 [some (.inr (.inr x0)), some (.inr (.inr x1)), none, none, none, none, none, none] [] s_) : Sim l G Y_X0_reckonCall lim (f_X0_reckonCall_B8 M x0 x1 x2 x3 x4) K 8 [some (.inr (.inr x0)), some (.inr (.inr x1)), some (.inl x2), some (.inl x3), some (.inl x4), none, none, none] [] M := by
  unfold f_X0_reckonCall_B8
  refine s_run (b := [(.iload 4, 2), (.aload_n 1, 1)]) 11 [some (.inr (.inr x0)), some (.inr (.inr x1)), some (.inl x2), some (.inl x3), some (.inl x4), none, none, none] [.inr (.inr x1), .inl x4] (by decide +kernel) rfl ?_
  refine s_cV (Z := Y_X5_everybody) (c := 5) (vs := []) (st := [.inl x4]) (rO := fun z => some (.inl z)) (mO := fun _ => M) zk_X5_everybody zi_X5_everybody q876 rfl ⟨by decide, by decide⟩ ⟨rfl, rfl⟩ rfl rfl (Nat.le_of_ble_eq_true rfl) (by decide +kernel) (fun z hz => c_X5_everybody hz) (fun v1 => ?_)
  change Sim l G Y_X0_reckonCall lim _ _ 14 [some (.inr (.inr x0)), some (.inr (.inr x1)), some (.inl x2), some (.inl x3), some (.inl x4), none, none, none] [.inl v1, .inl x4] M
  refine s_ic_gt (tgt := 113) (off := 99) (by decide +kernel) (by decide) (fun h2 => ?_) (fun h2 => ?_)
  · skip
    exact s_lsub (ls' := [some (.inr (.inr x0)), some (.inr (.inr x1)), none, none, none, none, none, none]) ⟨rfl, ⟨rfl, trivial⟩⟩ (kk2_0 M)
  · skip
    refine s_run (b := [(.aload_n 1, 1), (.iload 4, 2)]) 20 [some (.inr (.inr x0)), some (.inr (.inr x1)), some (.inl x2), some (.inl x3), some (.inl x4), none, none, none] [.inl x4, .inr (.inr x1)] (by decide +kernel) rfl ?_
    refine s_cS (Z := Y_X0_weightOf) (vs := [.inr (.inr x1), .inl x4]) (st := []) (rO := fun z => some (.inr (.inl z))) (mO := fun _ => M) zk_X0_weightOf q878 q877 ⟨by decide, by decide⟩ ⟨rfl, rfl⟩ rfl rfl (Nat.le_of_ble_eq_true rfl) (by decide +kernel) (fun z hz => c_X0_weightOf hz) (fun v3 => ?_)
    change Sim l G Y_X0_reckonCall lim _ _ 23 [some (.inr (.inr x0)), some (.inr (.inr x1)), some (.inl x2), some (.inl x3), some (.inl x4), none, none, none] [.inr (.inl v3)] M
    refine s_run (b := [(.lstore 5, 2), (.lload 5, 2), (.lconst 0, 1), (.lcmp, 1)]) 29 [some (.inr (.inr x0)), some (.inr (.inr x1)), some (.inl x2), some (.inl x3), some (.inl x4), some (.inr (.inl v3)), none, none] [.inl (lg_cmp v3 (0 : Int64))] (by decide +kernel) rfl ?_
    refine s_if_le (tgt := 107) (off := 78) (by decide +kernel) (by decide) (fun h4 => ?_) (fun h4 => ?_)
    · skip
      refine s_run (b := [(.iinc 4 1, 3), (.goto (-102), 3)]) 8 [some (.inr (.inr x0)), some (.inr (.inr x1)), some (.inl x2), some (.inl x3), some (.inl (x4 + (1 : Int32))), some (.inr (.inl v3)), none, none] [] (by decide +kernel) rfl ?_
      exact s_lsub (ls' := [some (.inr (.inr x0)), some (.inr (.inr x1)), some (.inl x2), some (.inl x3), some (.inl (x4 + (1 : Int32))), none, none, none]) ⟨rfl, ⟨rfl, ⟨rfl, ⟨rfl, ⟨rfl, trivial⟩⟩⟩⟩⟩ (kk1 (x4 + (1 : Int32)) M)
    · skip
      refine s_run (b := [(.aload_n 0, 1)]) 33 [some (.inr (.inr x0)), some (.inr (.inr x1)), some (.inl x2), some (.inl x3), some (.inl x4), some (.inr (.inl v3)), none, none] [.inr (.inr x0)] (by decide +kernel) rfl ?_
      refine s_gR fl_0_22 rfl (by decide +kernel) (fun v5 => ?_)
      refine s_run (b := [(.aload_n 1, 1), (.aload_n 1, 1)]) 38 [some (.inr (.inr x0)), some (.inr (.inr x1)), some (.inl x2), some (.inl x3), some (.inl x4), some (.inr (.inl v3)), none, none] [.inr (.inr x1), .inr (.inr x1), .inr (.inr v5)] (by decide +kernel) rfl ?_
      refine s_gR fl_0_39 rfl (by decide +kernel) (fun v6 => ?_)
      refine s_run (b := [(.iload_n 2, 1)]) 42 [some (.inr (.inr x0)), some (.inr (.inr x1)), some (.inl x2), some (.inl x3), some (.inl x4), some (.inr (.inl v3)), none, none] [.inl x2, .inr (.inr v6), .inr (.inr x1), .inr (.inr v5)] (by decide +kernel) rfl ?_
      refine s_ia (by decide +kernel) (fun v7 => ?_)
      refine s_run (b := [(.iload 4, 2)]) 45 [some (.inr (.inr x0)), some (.inr (.inr x1)), some (.inl x2), some (.inl x3), some (.inl x4), some (.inr (.inl v3)), none, none] [.inl x4, .inl v7, .inr (.inr x1), .inr (.inr v5)] (by decide +kernel) rfl ?_
      refine s_gsN (j := 0) (by decide) (List.mem_of_getElem? (i := 17) rfl) (by decide +kernel) ?_
      change Sim l G Y_X0_reckonCall lim _ _ 48 [some (.inr (.inr x0)), some (.inr (.inr x1)), some (.inl x2), some (.inl x3), some (.inl x4), some (.inr (.inl v3)), none, none] [.inr (.inr 1000), .inl x4, .inl v7, .inr (.inr x1), .inr (.inr v5)] M
      refine s_cV (Z := Y_X3_asTold) (c := 3) (vs := [.inr (.inr x1), .inl v7, .inl x4, .inr (.inr 1000)]) (st := []) (rO := fun _ => none) (mO := fun z => z) zk_X3_asTold zi_X3_asTold q881 rfl ⟨by decide, by decide⟩ ⟨rfl, rfl⟩ rfl rfl (Nat.le_of_ble_eq_true rfl) (by decide +kernel) (fun z hz => c_X3_asTold hz) (fun z8 => ?_)
      change Sim l G Y_X0_reckonCall lim _ _ 51 [some (.inr (.inr x0)), some (.inr (.inr x1)), some (.inl x2), some (.inl x3), some (.inl x4), some (.inr (.inl v3)), none, none] [] z8
      refine s_run (b := [(.iload_n 3, 1)]) 52 [some (.inr (.inr x0)), some (.inr (.inr x1)), some (.inl x2), some (.inl x3), some (.inl x4), some (.inr (.inl v3)), none, none] [.inl x3] (by decide +kernel) rfl ?_
      refine s_if_eq (tgt := 70) (off := 18) (by decide +kernel) (by decide) (fun h9 => ?_) (fun h9 => ?_)
      · skip
        refine s_run (b := [(.aload_n 1, 1), (.iload_n 2, 1), (.aload_n 0, 1)]) 73 [some (.inr (.inr x0)), some (.inr (.inr x1)), some (.inl x2), some (.inl x3), some (.inl x4), some (.inr (.inl v3)), none, none] [.inr (.inr x0), .inl x2, .inr (.inr x1)] (by decide +kernel) rfl ?_
        refine s_gR fl_0_22 rfl (by decide +kernel) (fun v10 => ?_)
        refine s_gI fl_0_49 rfl (by decide +kernel) (fun v11 => ?_)
        refine s_cV (Z := Y_X5_inTime) (c := 5) (vs := [.inl x2, .inl v11]) (st := []) (rO := fun z => some (.inl z)) (mO := fun _ => z8) zk_X5_inTime zi_X5_inTime q888 rfl ⟨by decide, by decide⟩ ⟨rfl, rfl⟩ rfl rfl (Nat.le_of_ble_eq_true rfl) (by decide +kernel) (fun z hz => c_X5_inTime hz) (fun v12 => ?_)
        change Sim l G Y_X0_reckonCall lim _ _ 82 [some (.inr (.inr x0)), some (.inr (.inr x1)), some (.inl x2), some (.inl x3), some (.inl x4), some (.inr (.inl v3)), none, none] [.inl v12] z8
        refine s_if_eq (tgt := 89) (off := 7) (by decide +kernel) (by decide) (fun h13 => ?_) (fun h13 => ?_)
        · skip
          refine s_run (b := [(.iconst 0, 1)]) 90 [some (.inr (.inr x0)), some (.inr (.inr x1)), some (.inl x2), some (.inl x3), some (.inl x4), some (.inr (.inl v3)), none, none] [.inl (0 : Int32)] (by decide +kernel) rfl ?_
          exact s_lsub (ls' := [some (.inr (.inr x0)), some (.inr (.inr x1)), some (.inl x2), some (.inl x3), some (.inl x4), some (.inr (.inl v3)), none, none]) ⟨rfl, ⟨rfl, ⟨rfl, ⟨rfl, ⟨rfl, ⟨rfl, trivial⟩⟩⟩⟩⟩⟩ (J_X0_reckonCall_90 z8 x0 x1 x2 x3 x4 v3 (0 : Int32) K kk1 kk2_0)
        · skip
          refine s_run (b := [(.iconst 1, 1), (.goto 4, 3)]) 90 [some (.inr (.inr x0)), some (.inr (.inr x1)), some (.inl x2), some (.inl x3), some (.inl x4), some (.inr (.inl v3)), none, none] [.inl (1 : Int32)] (by decide +kernel) rfl ?_
          exact s_lsub (ls' := [some (.inr (.inr x0)), some (.inr (.inr x1)), some (.inl x2), some (.inl x3), some (.inl x4), some (.inr (.inl v3)), none, none]) ⟨rfl, ⟨rfl, ⟨rfl, ⟨rfl, ⟨rfl, ⟨rfl, trivial⟩⟩⟩⟩⟩⟩ (J_X0_reckonCall_90 z8 x0 x1 x2 x3 x4 v3 (1 : Int32) K kk1 kk2_0)
      · skip
        refine s_run (b := [(.aload_n 1, 1), (.iload_n 2, 1), (.aload_n 0, 1)]) 58 [some (.inr (.inr x0)), some (.inr (.inr x1)), some (.inl x2), some (.inl x3), some (.inl x4), some (.inr (.inl v3)), none, none] [.inr (.inr x0), .inl x2, .inr (.inr x1)] (by decide +kernel) rfl ?_
        refine s_gR fl_0_22 rfl (by decide +kernel) (fun v14 => ?_)
        refine s_gI fl_0_49 rfl (by decide +kernel) (fun v15 => ?_)
        refine s_cV (Z := Y_X5_gotAt) (c := 5) (vs := [.inl x2, .inl v15]) (st := []) (rO := fun z => some (.inl z)) (mO := fun _ => z8) zk_X5_gotAt zi_X5_gotAt q882 rfl ⟨by decide, by decide⟩ ⟨rfl, rfl⟩ rfl rfl (Nat.le_of_ble_eq_true rfl) (by decide +kernel) (fun z hz => c_X5_gotAt hz) (fun v16 => ?_)
        change Sim l G Y_X0_reckonCall lim _ _ 67 [some (.inr (.inr x0)), some (.inr (.inr x1)), some (.inl x2), some (.inl x3), some (.inl x4), some (.inr (.inl v3)), none, none] [.inl v16] z8
        refine s_run (b := [(.goto 23, 3)]) 90 [some (.inr (.inr x0)), some (.inr (.inr x1)), some (.inl x2), some (.inl x3), some (.inl x4), some (.inr (.inl v3)), none, none] [.inl v16] (by decide +kernel) rfl ?_
        exact s_lsub (ls' := [some (.inr (.inr x0)), some (.inr (.inr x1)), some (.inl x2), some (.inl x3), some (.inl x4), some (.inr (.inl v3)), none, none]) ⟨rfl, ⟨rfl, ⟨rfl, ⟨rfl, ⟨rfl, ⟨rfl, trivial⟩⟩⟩⟩⟩⟩ (J_X0_reckonCall_90 z8 x0 x1 x2 x3 x4 v3 v16 K kk1 kk2_0)
set_option maxRecDepth 20000 in
theorem L_X0_reckonCall_8 {l : Launch} {G : Gv} {lim : Nat × Nat} (M : Mem) (x0 : Nat) (x1 : Nat) (x2 : Int32) (x3 : Int32) (x4 : Int32) (K : ((Mem)) → Option (Option Value × Mem)) (kk2_0 : ∀ r : Mem, SimR l G Y_X0_reckonCall lim (K r) 113 [some (.inr (.inr x0)), some (.inr (.inr x1)), none, none, none, none, none, none] [] r) : Sim l G Y_X0_reckonCall lim (f_X0_reckonCall_L8 M x0 x1 x2 x3 x4) K 8 [some (.inr (.inr x0)), some (.inr (.inr x1)), some (.inl x2), some (.inl x3), some (.inl x4), none, none, none] [] M :=
  s_iter (f := fun s : Int32 × Mem => f_X0_reckonCall_B8 s.2 x0 x1 x2 x3 s.1) (hd := 8) (cl := fun s => [some (.inr (.inr x0)), some (.inr (.inr x1)), some (.inl x2), some (.inl x3), some (.inl s.1), none, none, none]) (cm := fun s => s.2) (xp := fun _ => 113) (xl := fun r => [some (.inr (.inr x0)), some (.inr (.inr x1)), none, none, none, none, none, none]) (xm := fun r => r) (fun s K h1 h2 => B_X0_reckonCall_8 s.2 x0 x1 x2 x3 s.1 K (fun a4 a_ => h1 (a4, a_)) (fun a_ => h2 a_)) 1048576 (x4, M) K kk2_0
def f_X0_reckonCall (M : Mem) (x0 : Nat) (x1 : Nat) (x2 : Int32) (x3 : Int32) : Option (Mem) :=
  (pL M 0 x0 0 (0 : Int64)).bind fun M1 =>
  (f_X0_reckonCall_L8 M1 x0 x1 x2 x3 (0 : Int32)).bind fun r2 =>
  (gI r2 5 x1 0).bind fun v3 =>
  (f_X0_tenTo r2 v3).bind fun v4 =>
  (pL r2 0 x0 1 v4).bind fun M5 =>
  (ob M5 0 x0).bind fun _ => (f_X0_reduce M5 x0).bind fun z6 =>
  some z6
set_option maxRecDepth 20000 in
theorem S_X0_reckonCall {l : Launch} {G : Gv} {lim : Nat × Nat} (M : Mem) (x0 : Nat) (x1 : Nat) (x2 : Int32) (x3 : Int32) : Sim l G Y_X0_reckonCall lim (f_X0_reckonCall M x0 x1 x2 x3) (fun z => some (none, z)) 0 [some (.inr (.inr x0)), some (.inr (.inr x1)), some (.inl x2), some (.inl x3), none, none, none, none] [] M := by
  unfold f_X0_reckonCall
  refine s_run (b := [(.aload_n 0, 1), (.lconst 0, 1)]) 2 [some (.inr (.inr x0)), some (.inr (.inr x1)), some (.inl x2), some (.inl x3), none, none, none, none] [.inr (.inl (0 : Int64)), .inr (.inr x0)] (by decide +kernel) rfl ?_
  refine s_pL fl_0_26 (Or.inl rfl) rfl (by decide +kernel) (fun M1 => ?_)
  refine s_run (b := [(.iconst 0, 1), (.istore 4, 2)]) 8 [some (.inr (.inr x0)), some (.inr (.inr x1)), some (.inl x2), some (.inl x3), some (.inl (0 : Int32)), none, none, none] [] (by decide +kernel) rfl ?_
  refine s_lsub (ls' := [some (.inr (.inr x0)), some (.inr (.inr x1)), some (.inl x2), some (.inl x3), some (.inl (0 : Int32)), none, none, none]) ⟨rfl, ⟨rfl, ⟨rfl, ⟨rfl, ⟨rfl, trivial⟩⟩⟩⟩⟩ ?_
  refine sim_bind (L_X0_reckonCall_8 M1 x0 x1 x2 x3 (0 : Int32) _ (fun r2 => ?_))
  change Sim l G Y_X0_reckonCall lim _ _ 113 [some (.inr (.inr x0)), some (.inr (.inr x1)), none, none, none, none, none, none] [] r2
  refine s_run (b := [(.aload_n 0, 1), (.aload_n 1, 1)]) 115 [some (.inr (.inr x0)), some (.inr (.inr x1)), none, none, none, none, none, none] [.inr (.inr x1), .inr (.inr x0)] (by decide +kernel) rfl ?_
  refine s_gI fl_0_61 rfl (by decide +kernel) (fun v3 => ?_)
  refine s_cS (Z := Y_X0_tenTo) (vs := [.inl v3]) (st := [.inr (.inr x0)]) (rO := fun z => some (.inr (.inl z))) (mO := fun _ => r2) zk_X0_tenTo q890 q889 ⟨by decide, by decide⟩ ⟨rfl, rfl⟩ rfl rfl (Nat.le_of_ble_eq_true rfl) (by decide +kernel) (fun z hz => c_X0_tenTo hz) (fun v4 => ?_)
  change Sim l G Y_X0_reckonCall lim _ _ 121 [some (.inr (.inr x0)), some (.inr (.inr x1)), none, none, none, none, none, none] [.inr (.inl v4), .inr (.inr x0)] r2
  refine s_pL fl_0_9 (Or.inl rfl) rfl (by decide +kernel) (fun M5 => ?_)
  refine s_run (b := [(.aload_n 0, 1)]) 125 [some (.inr (.inr x0)), some (.inr (.inr x1)), none, none, none, none, none, none] [.inr (.inr x0)] (by decide +kernel) rfl ?_
  refine s_cV (Z := Y_X0_reduce) (c := 0) (vs := []) (st := []) (rO := fun _ => none) (mO := fun z => z) zk_X0_reduce zi_X0_reduce q893 rfl ⟨by decide, by decide⟩ ⟨rfl, rfl⟩ rfl rfl (Nat.le_of_ble_eq_true rfl) (by decide +kernel) (fun z hz => c_X0_reduce hz) (fun z6 => ?_)
  change Sim l G Y_X0_reckonCall lim _ _ 128 [some (.inr (.inr x0)), some (.inr (.inr x1)), none, none, none, none, none, none] [] z6
  exact s_vret (by decide +kernel) rfl
set_option maxRecDepth 20000 in
theorem c_X0_reckonCall {l : Launch} {G : Gv} {M : Mem} {x0 : Nat} {x1 : Nat} {x2 : Int32} {x3 : Int32} {z : Mem} (h : f_X0_reckonCall M x0 x1 x2 x3 = some z) : MetS l G Y_X0_reckonCall [.inr (.inr x0), .inr (.inr x1), .inl x2, .inl x3] M none z :=
  met_of (ls0 := [some (.inr (.inr x0)), some (.inr (.inr x1)), some (.inl x2), some (.inl x3), none, none, none, none]) (by decide) rfl (lv_in (m := 4) rfl) (sl_le (Nat.le_of_ble_eq_true rfl)) (by rw [h]; rfl) (Or.inl ⟨rfl, rfl⟩) (S_X0_reckonCall M x0 x1 x2 x3)
def f_X11_mean_J24 (M : Mem)   : Option (Int64 × Mem) :=
  some ((-1 : Int64), M)
set_option maxRecDepth 20000 in
theorem J_X11_mean_24 {l : Launch} {G : Gv} {lim : Nat × Nat} (M : Mem)    : Sim l G Y_X11_mean lim (f_X11_mean_J24 M ) (fun z => some (some (.long z.1), z.2)) 24 [none, none, none, none, none] [] M := by
  unfold f_X11_mean_J24
  refine s_ldc2 q871 (by decide +kernel) ?_
  change Sim l G Y_X11_mean lim _ _ 27 [none, none, none, none, none] [.inr (.inl (-1 : Int64))] M
  exact s_lret (by decide +kernel) rfl
def f_X11_mean (M : Mem) (x0 : Nat) (x1 : Int32) (x2 : Int32) (x3 : Int32) : Option (Int64 × Mem) :=
  (gR M 11 x0 0).bind fun v1 =>
  (ob M 9 v1).bind fun _ => (f_X9_officeAt M v1 x1).bind fun v2 =>
  (if v2 = 0 then
    f_X11_mean_J24 M  
  else
    (ob M 5 v2).bind fun _ => (f_X5_hasCall M v2 x2).bind fun v4 =>
    (if v4 = 0 then
      f_X11_mean_J24 M  
    else
      (gR M 11 x0 6).bind fun v6 =>
      (ob M 0 v6).bind fun _ => (f_X0_reckonCall M v6 v2 x2 (1 : Int32)).bind fun z7 =>
      (if x3 = 0 then
        (gR z7 11 x0 6).bind fun v9 =>
        (gL z7 0 v9 0).bind fun v10 =>
        some (v10, z7)
      else
        (gR z7 11 x0 6).bind fun v11 =>
        (gL z7 0 v11 1).bind fun v12 =>
        some (v12, z7))))
set_option maxRecDepth 20000 in
theorem S_X11_mean {l : Launch} {G : Gv} {lim : Nat × Nat} (M : Mem) (x0 : Nat) (x1 : Int32) (x2 : Int32) (x3 : Int32) : Sim l G Y_X11_mean lim (f_X11_mean M x0 x1 x2 x3) (fun z => some (some (.long z.1), z.2)) 0 [some (.inr (.inr x0)), some (.inl x1), some (.inl x2), some (.inl x3), none] [] M := by
  unfold f_X11_mean
  refine s_run (b := [(.aload_n 0, 1)]) 1 [some (.inr (.inr x0)), some (.inl x1), some (.inl x2), some (.inl x3), none] [.inr (.inr x0)] (by decide +kernel) rfl ?_
  refine s_gR fl_11_10 rfl (by decide +kernel) (fun v1 => ?_)
  refine s_run (b := [(.iload_n 1, 1)]) 5 [some (.inr (.inr x0)), some (.inl x1), some (.inl x2), some (.inl x3), none] [.inl x1, .inr (.inr v1)] (by decide +kernel) rfl ?_
  refine s_cV (Z := Y_X9_officeAt) (c := 9) (vs := [.inl x1]) (st := []) (rO := fun z => some (.inr (.inr z))) (mO := fun _ => M) zk_X9_officeAt zi_X9_officeAt q716 rfl ⟨by decide, by decide⟩ ⟨rfl, rfl⟩ rfl rfl (Nat.le_of_ble_eq_true rfl) (by decide +kernel) (fun z hz => c_X9_officeAt hz) (fun v2 => ?_)
  change Sim l G Y_X11_mean lim _ _ 8 [some (.inr (.inr x0)), some (.inl x1), some (.inl x2), some (.inl x3), none] [.inr (.inr v2)] M
  refine s_run (b := [(.astore 4, 2), (.aload 4, 2)]) 12 [some (.inr (.inr x0)), some (.inl x1), some (.inl x2), some (.inl x3), some (.inr (.inr v2))] [.inr (.inr v2)] (by decide +kernel) rfl ?_
  refine s_ifnull (tgt := 24) (off := 12) (by decide +kernel) (by decide) (fun h3 => ?_) (fun h3 => ?_)
  · skip
    exact s_lsub (ls' := [none, none, none, none, none]) trivial (J_X11_mean_24 M  )
  · skip
    refine s_run (b := [(.aload 4, 2), (.iload_n 2, 1)]) 18 [some (.inr (.inr x0)), some (.inl x1), some (.inl x2), some (.inl x3), some (.inr (.inr v2))] [.inl x2, .inr (.inr v2)] (by decide +kernel) rfl ?_
    refine s_cV (Z := Y_X5_hasCall) (c := 5) (vs := [.inl x2]) (st := []) (rO := fun z => some (.inl z)) (mO := fun _ => M) zk_X5_hasCall zi_X5_hasCall q870 rfl ⟨by decide, by decide⟩ ⟨rfl, rfl⟩ rfl rfl (Nat.le_of_ble_eq_true rfl) (by decide +kernel) (fun z hz => c_X5_hasCall hz) (fun v4 => ?_)
    change Sim l G Y_X11_mean lim _ _ 21 [some (.inr (.inr x0)), some (.inl x1), some (.inl x2), some (.inl x3), some (.inr (.inr v2))] [.inl v4] M
    refine s_if_ne (tgt := 28) (off := 7) (by decide +kernel) (by decide) (fun h5 => ?_) (fun h5 => ?_)
    · skip
      exact s_lsub (ls' := [none, none, none, none, none]) trivial (J_X11_mean_24 M  )
    · skip
      refine s_run (b := [(.aload_n 0, 1)]) 29 [some (.inr (.inr x0)), some (.inl x1), some (.inl x2), some (.inl x3), some (.inr (.inr v2))] [.inr (.inr x0)] (by decide +kernel) rfl ?_
      refine s_gR fl_11_48 rfl (by decide +kernel) (fun v6 => ?_)
      refine s_run (b := [(.aload 4, 2), (.iload_n 2, 1), (.iconst 1, 1)]) 36 [some (.inr (.inr x0)), some (.inl x1), some (.inl x2), some (.inl x3), some (.inr (.inr v2))] [.inl (1 : Int32), .inl x2, .inr (.inr v2), .inr (.inr v6)] (by decide +kernel) rfl ?_
      refine s_cV (Z := Y_X0_reckonCall) (c := 0) (vs := [.inr (.inr v2), .inl x2, .inl (1 : Int32)]) (st := []) (rO := fun _ => none) (mO := fun z => z) zk_X0_reckonCall zi_X0_reckonCall q872 rfl ⟨by decide, by decide⟩ ⟨rfl, rfl⟩ rfl rfl (Nat.le_of_ble_eq_true rfl) (by decide +kernel) (fun z hz => c_X0_reckonCall hz) (fun z7 => ?_)
      change Sim l G Y_X11_mean lim _ _ 39 [some (.inr (.inr x0)), some (.inl x1), some (.inl x2), some (.inl x3), some (.inr (.inr v2))] [] z7
      refine s_run (b := [(.iload_n 3, 1)]) 40 [some (.inr (.inr x0)), some (.inl x1), some (.inl x2), some (.inl x3), some (.inr (.inr v2))] [.inl x3] (by decide +kernel) rfl ?_
      refine s_if_eq (tgt := 53) (off := 13) (by decide +kernel) (by decide) (fun h8 => ?_) (fun h8 => ?_)
      · skip
        refine s_run (b := [(.aload_n 0, 1)]) 54 [some (.inr (.inr x0)), some (.inl x1), some (.inl x2), some (.inl x3), some (.inr (.inr v2))] [.inr (.inr x0)] (by decide +kernel) rfl ?_
        refine s_gR fl_11_48 rfl (by decide +kernel) (fun v9 => ?_)
        refine s_gL fl_11_170 rfl (by decide +kernel) (fun v10 => ?_)
        exact s_lret (by decide +kernel) rfl
      · skip
        refine s_run (b := [(.aload_n 0, 1)]) 44 [some (.inr (.inr x0)), some (.inl x1), some (.inl x2), some (.inl x3), some (.inr (.inr v2))] [.inr (.inr x0)] (by decide +kernel) rfl ?_
        refine s_gR fl_11_48 rfl (by decide +kernel) (fun v11 => ?_)
        refine s_gL fl_11_166 rfl (by decide +kernel) (fun v12 => ?_)
        refine s_run (b := [(.goto 10, 3)]) 60 [some (.inr (.inr x0)), some (.inl x1), some (.inl x2), some (.inl x3), some (.inr (.inr v2))] [.inr (.inl v12)] (by decide +kernel) rfl ?_
        exact s_lret (by decide +kernel) rfl
set_option maxRecDepth 20000 in
theorem c_X11_mean {l : Launch} {G : Gv} {M : Mem} {x0 : Nat} {x1 : Int32} {x2 : Int32} {x3 : Int32} {z : Int64 × Mem} (h : f_X11_mean M x0 x1 x2 x3 = some z) : MetS l G Y_X11_mean [.inr (.inr x0), .inl x1, .inl x2, .inl x3] M (some (.long z.1)) z.2 :=
  met_of (ls0 := [some (.inr (.inr x0)), some (.inl x1), some (.inl x2), some (.inl x3), none]) (by decide) rfl (lv_in (m := 1) rfl) (sl_le (Nat.le_of_ble_eq_true rfl)) (by rw [h]; rfl) (Or.inl ⟨rfl, rfl⟩) (S_X11_mean M x0 x1 x2 x3)
def f_X11_odds_J24 (M : Mem)   : Option (Int64 × Mem) :=
  some ((-1 : Int64), M)
set_option maxRecDepth 20000 in
theorem J_X11_odds_24 {l : Launch} {G : Gv} {lim : Nat × Nat} (M : Mem)    : Sim l G Y_X11_odds lim (f_X11_odds_J24 M ) (fun z => some (some (.long z.1), z.2)) 24 [none, none, none, none, none] [] M := by
  unfold f_X11_odds_J24
  refine s_ldc2 q871 (by decide +kernel) ?_
  change Sim l G Y_X11_odds lim _ _ 27 [none, none, none, none, none] [.inr (.inl (-1 : Int64))] M
  exact s_lret (by decide +kernel) rfl
def f_X11_odds (M : Mem) (x0 : Nat) (x1 : Int32) (x2 : Int32) (x3 : Int32) : Option (Int64 × Mem) :=
  (gR M 11 x0 0).bind fun v1 =>
  (ob M 9 v1).bind fun _ => (f_X9_officeAt M v1 x1).bind fun v2 =>
  (if v2 = 0 then
    f_X11_odds_J24 M  
  else
    (ob M 5 v2).bind fun _ => (f_X5_hasCall M v2 x2).bind fun v4 =>
    (if v4 = 0 then
      f_X11_odds_J24 M  
    else
      (gR M 11 x0 6).bind fun v6 =>
      (ob M 0 v6).bind fun _ => (f_X0_reckonCall M v6 v2 x2 (0 : Int32)).bind fun z7 =>
      (if x3 = 0 then
        (gR z7 11 x0 6).bind fun v9 =>
        (gL z7 0 v9 0).bind fun v10 =>
        some (v10, z7)
      else
        (gR z7 11 x0 6).bind fun v11 =>
        (gL z7 0 v11 1).bind fun v12 =>
        some (v12, z7))))
set_option maxRecDepth 20000 in
theorem S_X11_odds {l : Launch} {G : Gv} {lim : Nat × Nat} (M : Mem) (x0 : Nat) (x1 : Int32) (x2 : Int32) (x3 : Int32) : Sim l G Y_X11_odds lim (f_X11_odds M x0 x1 x2 x3) (fun z => some (some (.long z.1), z.2)) 0 [some (.inr (.inr x0)), some (.inl x1), some (.inl x2), some (.inl x3), none] [] M := by
  unfold f_X11_odds
  refine s_run (b := [(.aload_n 0, 1)]) 1 [some (.inr (.inr x0)), some (.inl x1), some (.inl x2), some (.inl x3), none] [.inr (.inr x0)] (by decide +kernel) rfl ?_
  refine s_gR fl_11_10 rfl (by decide +kernel) (fun v1 => ?_)
  refine s_run (b := [(.iload_n 1, 1)]) 5 [some (.inr (.inr x0)), some (.inl x1), some (.inl x2), some (.inl x3), none] [.inl x1, .inr (.inr v1)] (by decide +kernel) rfl ?_
  refine s_cV (Z := Y_X9_officeAt) (c := 9) (vs := [.inl x1]) (st := []) (rO := fun z => some (.inr (.inr z))) (mO := fun _ => M) zk_X9_officeAt zi_X9_officeAt q716 rfl ⟨by decide, by decide⟩ ⟨rfl, rfl⟩ rfl rfl (Nat.le_of_ble_eq_true rfl) (by decide +kernel) (fun z hz => c_X9_officeAt hz) (fun v2 => ?_)
  change Sim l G Y_X11_odds lim _ _ 8 [some (.inr (.inr x0)), some (.inl x1), some (.inl x2), some (.inl x3), none] [.inr (.inr v2)] M
  refine s_run (b := [(.astore 4, 2), (.aload 4, 2)]) 12 [some (.inr (.inr x0)), some (.inl x1), some (.inl x2), some (.inl x3), some (.inr (.inr v2))] [.inr (.inr v2)] (by decide +kernel) rfl ?_
  refine s_ifnull (tgt := 24) (off := 12) (by decide +kernel) (by decide) (fun h3 => ?_) (fun h3 => ?_)
  · skip
    exact s_lsub (ls' := [none, none, none, none, none]) trivial (J_X11_odds_24 M  )
  · skip
    refine s_run (b := [(.aload 4, 2), (.iload_n 2, 1)]) 18 [some (.inr (.inr x0)), some (.inl x1), some (.inl x2), some (.inl x3), some (.inr (.inr v2))] [.inl x2, .inr (.inr v2)] (by decide +kernel) rfl ?_
    refine s_cV (Z := Y_X5_hasCall) (c := 5) (vs := [.inl x2]) (st := []) (rO := fun z => some (.inl z)) (mO := fun _ => M) zk_X5_hasCall zi_X5_hasCall q870 rfl ⟨by decide, by decide⟩ ⟨rfl, rfl⟩ rfl rfl (Nat.le_of_ble_eq_true rfl) (by decide +kernel) (fun z hz => c_X5_hasCall hz) (fun v4 => ?_)
    change Sim l G Y_X11_odds lim _ _ 21 [some (.inr (.inr x0)), some (.inl x1), some (.inl x2), some (.inl x3), some (.inr (.inr v2))] [.inl v4] M
    refine s_if_ne (tgt := 28) (off := 7) (by decide +kernel) (by decide) (fun h5 => ?_) (fun h5 => ?_)
    · skip
      exact s_lsub (ls' := [none, none, none, none, none]) trivial (J_X11_odds_24 M  )
    · skip
      refine s_run (b := [(.aload_n 0, 1)]) 29 [some (.inr (.inr x0)), some (.inl x1), some (.inl x2), some (.inl x3), some (.inr (.inr v2))] [.inr (.inr x0)] (by decide +kernel) rfl ?_
      refine s_gR fl_11_48 rfl (by decide +kernel) (fun v6 => ?_)
      refine s_run (b := [(.aload 4, 2), (.iload_n 2, 1), (.iconst 0, 1)]) 36 [some (.inr (.inr x0)), some (.inl x1), some (.inl x2), some (.inl x3), some (.inr (.inr v2))] [.inl (0 : Int32), .inl x2, .inr (.inr v2), .inr (.inr v6)] (by decide +kernel) rfl ?_
      refine s_cV (Z := Y_X0_reckonCall) (c := 0) (vs := [.inr (.inr v2), .inl x2, .inl (0 : Int32)]) (st := []) (rO := fun _ => none) (mO := fun z => z) zk_X0_reckonCall zi_X0_reckonCall q872 rfl ⟨by decide, by decide⟩ ⟨rfl, rfl⟩ rfl rfl (Nat.le_of_ble_eq_true rfl) (by decide +kernel) (fun z hz => c_X0_reckonCall hz) (fun z7 => ?_)
      change Sim l G Y_X11_odds lim _ _ 39 [some (.inr (.inr x0)), some (.inl x1), some (.inl x2), some (.inl x3), some (.inr (.inr v2))] [] z7
      refine s_run (b := [(.iload_n 3, 1)]) 40 [some (.inr (.inr x0)), some (.inl x1), some (.inl x2), some (.inl x3), some (.inr (.inr v2))] [.inl x3] (by decide +kernel) rfl ?_
      refine s_if_eq (tgt := 53) (off := 13) (by decide +kernel) (by decide) (fun h8 => ?_) (fun h8 => ?_)
      · skip
        refine s_run (b := [(.aload_n 0, 1)]) 54 [some (.inr (.inr x0)), some (.inl x1), some (.inl x2), some (.inl x3), some (.inr (.inr v2))] [.inr (.inr x0)] (by decide +kernel) rfl ?_
        refine s_gR fl_11_48 rfl (by decide +kernel) (fun v9 => ?_)
        refine s_gL fl_11_170 rfl (by decide +kernel) (fun v10 => ?_)
        exact s_lret (by decide +kernel) rfl
      · skip
        refine s_run (b := [(.aload_n 0, 1)]) 44 [some (.inr (.inr x0)), some (.inl x1), some (.inl x2), some (.inl x3), some (.inr (.inr v2))] [.inr (.inr x0)] (by decide +kernel) rfl ?_
        refine s_gR fl_11_48 rfl (by decide +kernel) (fun v11 => ?_)
        refine s_gL fl_11_166 rfl (by decide +kernel) (fun v12 => ?_)
        refine s_run (b := [(.goto 10, 3)]) 60 [some (.inr (.inr x0)), some (.inl x1), some (.inl x2), some (.inl x3), some (.inr (.inr v2))] [.inr (.inl v12)] (by decide +kernel) rfl ?_
        exact s_lret (by decide +kernel) rfl
set_option maxRecDepth 20000 in
theorem c_X11_odds {l : Launch} {G : Gv} {M : Mem} {x0 : Nat} {x1 : Int32} {x2 : Int32} {x3 : Int32} {z : Int64 × Mem} (h : f_X11_odds M x0 x1 x2 x3 = some z) : MetS l G Y_X11_odds [.inr (.inr x0), .inl x1, .inl x2, .inl x3] M (some (.long z.1)) z.2 :=
  met_of (ls0 := [some (.inr (.inr x0)), some (.inl x1), some (.inl x2), some (.inl x3), none]) (by decide) rfl (lv_in (m := 1) rfl) (sl_le (Nat.le_of_ble_eq_true rfl)) (by rw [h]; rfl) (Or.inl ⟨rfl, rfl⟩) (S_X11_odds M x0 x1 x2 x3)
def f_X5_tellCall (M : Mem) (x0 : Nat) (x1 : Int32) (x2 : Int32) : Option (Int32) :=
  (if x1 = (6 : Int32) then
    (gR M 5 x0 10).bind fun v2 =>
    (aI M 0 v2 x2).bind fun v3 =>
    some v3
  else
  (if x1 = (7 : Int32) then
    (gR M 5 x0 11).bind fun v5 =>
    (aI M 0 v5 x2).bind fun v6 =>
    some v6
  else
  (if x1 = (8 : Int32) then
    (gR M 5 x0 12).bind fun v8 =>
    (aI M 0 v8 x2).bind fun v9 =>
    some v9
  else
  some (-1 : Int32))))
set_option maxRecDepth 20000 in
theorem S_X5_tellCall {l : Launch} {G : Gv} {lim : Nat × Nat} (M : Mem) (x0 : Nat) (x1 : Int32) (x2 : Int32) : Sim l G Y_X5_tellCall lim (f_X5_tellCall M x0 x1 x2) (fun z => some (some (.int z), M)) 0 [some (.inr (.inr x0)), some (.inl x1), some (.inl x2)] [] M := by
  unfold f_X5_tellCall
  refine s_run (b := [(.iload_n 1, 1)]) 1 [some (.inr (.inr x0)), some (.inl x1), some (.inl x2)] [.inl x1] (by decide +kernel) rfl ?_
  refine s_ite (fun h1 => ?_) (fun h1 => ?_)
  · refine s_tabIn (off := 27) (tgt := 28) (dflt := 48) (lo := 6) (hi := 8) (offs := #[27, 34, 41]) (len := 27) (6 : Int32) (by decide +kernel) h1 rfl rfl rfl (by decide) ?_
    change Sim l G Y_X5_tellCall lim _ _ 28 [some (.inr (.inr x0)), some (.inl x1), some (.inl x2)] [] M
    refine s_run (b := [(.aload_n 0, 1)]) 29 [some (.inr (.inr x0)), some (.inl x1), some (.inl x2)] [.inr (.inr x0)] (by decide +kernel) rfl ?_
    refine s_gR fl_5_27 rfl (by decide +kernel) (fun v2 => ?_)
    refine s_run (b := [(.iload_n 2, 1)]) 33 [some (.inr (.inr x0)), some (.inl x1), some (.inl x2)] [.inl x2, .inr (.inr v2)] (by decide +kernel) rfl ?_
    refine s_ia (by decide +kernel) (fun v3 => ?_)
    exact s_iret (by decide +kernel) rfl
  refine s_ite (fun h4 => ?_) (fun h4 => ?_)
  · refine s_tabIn (off := 34) (tgt := 35) (dflt := 48) (lo := 6) (hi := 8) (offs := #[27, 34, 41]) (len := 27) (7 : Int32) (by decide +kernel) h4 rfl rfl rfl (by decide) ?_
    change Sim l G Y_X5_tellCall lim _ _ 35 [some (.inr (.inr x0)), some (.inl x1), some (.inl x2)] [] M
    refine s_run (b := [(.aload_n 0, 1)]) 36 [some (.inr (.inr x0)), some (.inl x1), some (.inl x2)] [.inr (.inr x0)] (by decide +kernel) rfl ?_
    refine s_gR fl_5_30 rfl (by decide +kernel) (fun v5 => ?_)
    refine s_run (b := [(.iload_n 2, 1)]) 40 [some (.inr (.inr x0)), some (.inl x1), some (.inl x2)] [.inl x2, .inr (.inr v5)] (by decide +kernel) rfl ?_
    refine s_ia (by decide +kernel) (fun v6 => ?_)
    exact s_iret (by decide +kernel) rfl
  refine s_ite (fun h7 => ?_) (fun h7 => ?_)
  · refine s_tabIn (off := 41) (tgt := 42) (dflt := 48) (lo := 6) (hi := 8) (offs := #[27, 34, 41]) (len := 27) (8 : Int32) (by decide +kernel) h7 rfl rfl rfl (by decide) ?_
    change Sim l G Y_X5_tellCall lim _ _ 42 [some (.inr (.inr x0)), some (.inl x1), some (.inl x2)] [] M
    refine s_run (b := [(.aload_n 0, 1)]) 43 [some (.inr (.inr x0)), some (.inl x1), some (.inl x2)] [.inr (.inr x0)] (by decide +kernel) rfl ?_
    refine s_gR fl_5_33 rfl (by decide +kernel) (fun v8 => ?_)
    refine s_run (b := [(.iload_n 2, 1)]) 47 [some (.inr (.inr x0)), some (.inl x1), some (.inl x2)] [.inl x2, .inr (.inr v8)] (by decide +kernel) rfl ?_
    refine s_ia (by decide +kernel) (fun v9 => ?_)
    exact s_iret (by decide +kernel) rfl
  refine s_tabOut (tgt := 49) (dflt := 48) (lo := 6) (hi := 8) (offs := #[27, 34, 41]) (len := 27) (by decide +kernel) (tab_out (fun k hk => by rcases (show k = 0 ∨ k = 1 ∨ k = 2 by omega) with rfl | rfl | rfl <;> first | exact i32_ne h1 (by decide) | exact i32_ne h4 (by decide) | exact i32_ne h7 (by decide))) (by decide) ?_
  change Sim l G Y_X5_tellCall lim _ _ 49 [some (.inr (.inr x0)), some (.inl x1), some (.inl x2)] [] M
  refine s_run (b := [(.iconst (-1), 1)]) 50 [some (.inr (.inr x0)), some (.inl x1), some (.inl x2)] [.inl (-1 : Int32)] (by decide +kernel) rfl ?_
  exact s_iret (by decide +kernel) rfl
set_option maxRecDepth 20000 in
theorem c_X5_tellCall {l : Launch} {G : Gv} {M : Mem} {x0 : Nat} {x1 : Int32} {x2 : Int32} {z : Int32} (h : f_X5_tellCall M x0 x1 x2 = some z) : MetS l G Y_X5_tellCall [.inr (.inr x0), .inl x1, .inl x2] M (some (.int z)) M :=
  met_of (ls0 := [some (.inr (.inr x0)), some (.inl x1), some (.inl x2)]) (by decide) rfl (lv_in (m := 0) rfl) (sl_le (Nat.le_of_ble_eq_true rfl)) (by rw [h]; rfl) (Or.inl ⟨rfl, rfl⟩) (S_X5_tellCall M x0 x1 x2)
def f_X5_tellDesk (M : Mem) (x0 : Nat) (x1 : Int32) (x2 : Int32) : Option (Int32) :=
  (if x1 = (1 : Int32) then
    (gR M 5 x0 5).bind fun v2 =>
    (aI M 0 v2 x2).bind fun v3 =>
    some v3
  else
  (if x1 = (2 : Int32) then
    (gR M 5 x0 6).bind fun v5 =>
    (aI M 0 v5 x2).bind fun v6 =>
    some v6
  else
  (if x1 = (3 : Int32) then
    (gR M 5 x0 7).bind fun v8 =>
    (aI M 0 v8 x2).bind fun v9 =>
    some v9
  else
  (if x1 = (4 : Int32) then
    (gR M 5 x0 8).bind fun v11 =>
    (aI M 0 v11 x2).bind fun v12 =>
    some v12
  else
  (if x1 = (5 : Int32) then
    (gR M 5 x0 9).bind fun v14 =>
    (aI M 0 v14 x2).bind fun v15 =>
    some v15
  else
  some (-1 : Int32))))))
set_option maxRecDepth 20000 in
theorem S_X5_tellDesk {l : Launch} {G : Gv} {lim : Nat × Nat} (M : Mem) (x0 : Nat) (x1 : Int32) (x2 : Int32) : Sim l G Y_X5_tellDesk lim (f_X5_tellDesk M x0 x1 x2) (fun z => some (some (.int z), M)) 0 [some (.inr (.inr x0)), some (.inl x1), some (.inl x2)] [] M := by
  unfold f_X5_tellDesk
  refine s_run (b := [(.iload_n 1, 1)]) 1 [some (.inr (.inr x0)), some (.inl x1), some (.inl x2)] [.inl x1] (by decide +kernel) rfl ?_
  refine s_ite (fun h1 => ?_) (fun h1 => ?_)
  · refine s_tabIn (off := 35) (tgt := 36) (dflt := 70) (lo := 1) (hi := 5) (offs := #[35, 42, 49, 56, 63]) (len := 35) (1 : Int32) (by decide +kernel) h1 rfl rfl rfl (by decide) ?_
    change Sim l G Y_X5_tellDesk lim _ _ 36 [some (.inr (.inr x0)), some (.inl x1), some (.inl x2)] [] M
    refine s_run (b := [(.aload_n 0, 1)]) 37 [some (.inr (.inr x0)), some (.inl x1), some (.inl x2)] [.inr (.inr x0)] (by decide +kernel) rfl ?_
    refine s_gR fl_5_9 rfl (by decide +kernel) (fun v2 => ?_)
    refine s_run (b := [(.iload_n 2, 1)]) 41 [some (.inr (.inr x0)), some (.inl x1), some (.inl x2)] [.inl x2, .inr (.inr v2)] (by decide +kernel) rfl ?_
    refine s_ia (by decide +kernel) (fun v3 => ?_)
    exact s_iret (by decide +kernel) rfl
  refine s_ite (fun h4 => ?_) (fun h4 => ?_)
  · refine s_tabIn (off := 42) (tgt := 43) (dflt := 70) (lo := 1) (hi := 5) (offs := #[35, 42, 49, 56, 63]) (len := 35) (2 : Int32) (by decide +kernel) h4 rfl rfl rfl (by decide) ?_
    change Sim l G Y_X5_tellDesk lim _ _ 43 [some (.inr (.inr x0)), some (.inl x1), some (.inl x2)] [] M
    refine s_run (b := [(.aload_n 0, 1)]) 44 [some (.inr (.inr x0)), some (.inl x1), some (.inl x2)] [.inr (.inr x0)] (by decide +kernel) rfl ?_
    refine s_gR fl_5_15 rfl (by decide +kernel) (fun v5 => ?_)
    refine s_run (b := [(.iload_n 2, 1)]) 48 [some (.inr (.inr x0)), some (.inl x1), some (.inl x2)] [.inl x2, .inr (.inr v5)] (by decide +kernel) rfl ?_
    refine s_ia (by decide +kernel) (fun v6 => ?_)
    exact s_iret (by decide +kernel) rfl
  refine s_ite (fun h7 => ?_) (fun h7 => ?_)
  · refine s_tabIn (off := 49) (tgt := 50) (dflt := 70) (lo := 1) (hi := 5) (offs := #[35, 42, 49, 56, 63]) (len := 35) (3 : Int32) (by decide +kernel) h7 rfl rfl rfl (by decide) ?_
    change Sim l G Y_X5_tellDesk lim _ _ 50 [some (.inr (.inr x0)), some (.inl x1), some (.inl x2)] [] M
    refine s_run (b := [(.aload_n 0, 1)]) 51 [some (.inr (.inr x0)), some (.inl x1), some (.inl x2)] [.inr (.inr x0)] (by decide +kernel) rfl ?_
    refine s_gR fl_5_18 rfl (by decide +kernel) (fun v8 => ?_)
    refine s_run (b := [(.iload_n 2, 1)]) 55 [some (.inr (.inr x0)), some (.inl x1), some (.inl x2)] [.inl x2, .inr (.inr v8)] (by decide +kernel) rfl ?_
    refine s_ia (by decide +kernel) (fun v9 => ?_)
    exact s_iret (by decide +kernel) rfl
  refine s_ite (fun h10 => ?_) (fun h10 => ?_)
  · refine s_tabIn (off := 56) (tgt := 57) (dflt := 70) (lo := 1) (hi := 5) (offs := #[35, 42, 49, 56, 63]) (len := 35) (4 : Int32) (by decide +kernel) h10 rfl rfl rfl (by decide) ?_
    change Sim l G Y_X5_tellDesk lim _ _ 57 [some (.inr (.inr x0)), some (.inl x1), some (.inl x2)] [] M
    refine s_run (b := [(.aload_n 0, 1)]) 58 [some (.inr (.inr x0)), some (.inl x1), some (.inl x2)] [.inr (.inr x0)] (by decide +kernel) rfl ?_
    refine s_gR fl_5_21 rfl (by decide +kernel) (fun v11 => ?_)
    refine s_run (b := [(.iload_n 2, 1)]) 62 [some (.inr (.inr x0)), some (.inl x1), some (.inl x2)] [.inl x2, .inr (.inr v11)] (by decide +kernel) rfl ?_
    refine s_ia (by decide +kernel) (fun v12 => ?_)
    exact s_iret (by decide +kernel) rfl
  refine s_ite (fun h13 => ?_) (fun h13 => ?_)
  · refine s_tabIn (off := 63) (tgt := 64) (dflt := 70) (lo := 1) (hi := 5) (offs := #[35, 42, 49, 56, 63]) (len := 35) (5 : Int32) (by decide +kernel) h13 rfl rfl rfl (by decide) ?_
    change Sim l G Y_X5_tellDesk lim _ _ 64 [some (.inr (.inr x0)), some (.inl x1), some (.inl x2)] [] M
    refine s_run (b := [(.aload_n 0, 1)]) 65 [some (.inr (.inr x0)), some (.inl x1), some (.inl x2)] [.inr (.inr x0)] (by decide +kernel) rfl ?_
    refine s_gR fl_5_24 rfl (by decide +kernel) (fun v14 => ?_)
    refine s_run (b := [(.iload_n 2, 1)]) 69 [some (.inr (.inr x0)), some (.inl x1), some (.inl x2)] [.inl x2, .inr (.inr v14)] (by decide +kernel) rfl ?_
    refine s_ia (by decide +kernel) (fun v15 => ?_)
    exact s_iret (by decide +kernel) rfl
  refine s_tabOut (tgt := 71) (dflt := 70) (lo := 1) (hi := 5) (offs := #[35, 42, 49, 56, 63]) (len := 35) (by decide +kernel) (tab_out (fun k hk => by rcases (show k = 0 ∨ k = 1 ∨ k = 2 ∨ k = 3 ∨ k = 4 by omega) with rfl | rfl | rfl | rfl | rfl <;> first | exact i32_ne h1 (by decide) | exact i32_ne h4 (by decide) | exact i32_ne h7 (by decide) | exact i32_ne h10 (by decide) | exact i32_ne h13 (by decide))) (by decide) ?_
  change Sim l G Y_X5_tellDesk lim _ _ 71 [some (.inr (.inr x0)), some (.inl x1), some (.inl x2)] [] M
  refine s_run (b := [(.iconst (-1), 1)]) 72 [some (.inr (.inr x0)), some (.inl x1), some (.inl x2)] [.inl (-1 : Int32)] (by decide +kernel) rfl ?_
  exact s_iret (by decide +kernel) rfl
set_option maxRecDepth 20000 in
theorem c_X5_tellDesk {l : Launch} {G : Gv} {M : Mem} {x0 : Nat} {x1 : Int32} {x2 : Int32} {z : Int32} (h : f_X5_tellDesk M x0 x1 x2 = some z) : MetS l G Y_X5_tellDesk [.inr (.inr x0), .inl x1, .inl x2] M (some (.int z)) M :=
  met_of (ls0 := [some (.inr (.inr x0)), some (.inl x1), some (.inl x2)]) (by decide) rfl (lv_in (m := 0) rfl) (sl_le (Nat.le_of_ble_eq_true rfl)) (by rw [h]; rfl) (Or.inl ⟨rfl, rfl⟩) (S_X5_tellDesk M x0 x1 x2)
def f_X5_tellRow (M : Mem) (x0 : Nat) (x1 : Int32) (x2 : Int32) : Option (Int32) :=
  (if (6 : Int32) ≤ x1 then
    (ob M 5 x0).bind fun _ => (f_X5_hasCall M x0 x2).bind fun v2 =>
    (if v2 = 0 then
      some (-1 : Int32)
    else
      (ob M 5 x0).bind fun _ => (f_X5_tellCall M x0 x1 x2).bind fun v4 =>
      some v4)
  else
    (ob M 5 x0).bind fun _ => (f_X5_hasDesk M x0 x2).bind fun v5 =>
    (if v5 = 0 then
      some (-1 : Int32)
    else
      (ob M 5 x0).bind fun _ => (f_X5_tellDesk M x0 x1 x2).bind fun v7 =>
      some v7))
set_option maxRecDepth 20000 in
theorem S_X5_tellRow {l : Launch} {G : Gv} {lim : Nat × Nat} (M : Mem) (x0 : Nat) (x1 : Int32) (x2 : Int32) : Sim l G Y_X5_tellRow lim (f_X5_tellRow M x0 x1 x2) (fun z => some (some (.int z), M)) 0 [some (.inr (.inr x0)), some (.inl x1), some (.inl x2)] [] M := by
  unfold f_X5_tellRow
  refine s_run (b := [(.iload_n 1, 1), (.bipush 6, 2)]) 3 [some (.inr (.inr x0)), some (.inl x1), some (.inl x2)] [.inl (6 : Int32), .inl x1] (by decide +kernel) rfl ?_
  refine s_ic_ge (tgt := 25) (off := 22) (by decide +kernel) (by decide) (fun h1 => ?_) (fun h1 => ?_)
  · skip
    refine s_run (b := [(.aload_n 0, 1), (.iload_n 2, 1)]) 27 [some (.inr (.inr x0)), some (.inl x1), some (.inl x2)] [.inl x2, .inr (.inr x0)] (by decide +kernel) rfl ?_
    refine s_cV (Z := Y_X5_hasCall) (c := 5) (vs := [.inl x2]) (st := []) (rO := fun z => some (.inl z)) (mO := fun _ => M) zk_X5_hasCall zi_X5_hasCall q732 rfl ⟨by decide, by decide⟩ ⟨rfl, rfl⟩ rfl rfl (Nat.le_of_ble_eq_true rfl) (by decide +kernel) (fun z hz => c_X5_hasCall hz) (fun v2 => ?_)
    change Sim l G Y_X5_tellRow lim _ _ 30 [some (.inr (.inr x0)), some (.inl x1), some (.inl x2)] [.inl v2] M
    refine s_if_eq (tgt := 42) (off := 12) (by decide +kernel) (by decide) (fun h3 => ?_) (fun h3 => ?_)
    · skip
      refine s_run (b := [(.iconst (-1), 1)]) 43 [some (.inr (.inr x0)), some (.inl x1), some (.inl x2)] [.inl (-1 : Int32)] (by decide +kernel) rfl ?_
      exact s_iret (by decide +kernel) rfl
    · skip
      refine s_run (b := [(.aload_n 0, 1), (.iload_n 1, 1), (.iload_n 2, 1)]) 36 [some (.inr (.inr x0)), some (.inl x1), some (.inl x2)] [.inl x2, .inl x1, .inr (.inr x0)] (by decide +kernel) rfl ?_
      refine s_cV (Z := Y_X5_tellCall) (c := 5) (vs := [.inl x1, .inl x2]) (st := []) (rO := fun z => some (.inl z)) (mO := fun _ => M) zk_X5_tellCall zi_X5_tellCall q736 rfl ⟨by decide, by decide⟩ ⟨rfl, rfl⟩ rfl rfl (Nat.le_of_ble_eq_true rfl) (by decide +kernel) (fun z hz => c_X5_tellCall hz) (fun v4 => ?_)
      change Sim l G Y_X5_tellRow lim _ _ 39 [some (.inr (.inr x0)), some (.inl x1), some (.inl x2)] [.inl v4] M
      refine s_run (b := [(.goto 4, 3)]) 43 [some (.inr (.inr x0)), some (.inl x1), some (.inl x2)] [.inl v4] (by decide +kernel) rfl ?_
      exact s_iret (by decide +kernel) rfl
  · skip
    refine s_run (b := [(.aload_n 0, 1), (.iload_n 2, 1)]) 8 [some (.inr (.inr x0)), some (.inl x1), some (.inl x2)] [.inl x2, .inr (.inr x0)] (by decide +kernel) rfl ?_
    refine s_cV (Z := Y_X5_hasDesk) (c := 5) (vs := [.inl x2]) (st := []) (rO := fun z => some (.inl z)) (mO := fun _ => M) zk_X5_hasDesk zi_X5_hasDesk q680 rfl ⟨by decide, by decide⟩ ⟨rfl, rfl⟩ rfl rfl (Nat.le_of_ble_eq_true rfl) (by decide +kernel) (fun z hz => c_X5_hasDesk hz) (fun v5 => ?_)
    change Sim l G Y_X5_tellRow lim _ _ 11 [some (.inr (.inr x0)), some (.inl x1), some (.inl x2)] [.inl v5] M
    refine s_if_eq (tgt := 23) (off := 12) (by decide +kernel) (by decide) (fun h6 => ?_) (fun h6 => ?_)
    · skip
      refine s_run (b := [(.iconst (-1), 1)]) 24 [some (.inr (.inr x0)), some (.inl x1), some (.inl x2)] [.inl (-1 : Int32)] (by decide +kernel) rfl ?_
      exact s_iret (by decide +kernel) rfl
    · skip
      refine s_run (b := [(.aload_n 0, 1), (.iload_n 1, 1), (.iload_n 2, 1)]) 17 [some (.inr (.inr x0)), some (.inl x1), some (.inl x2)] [.inl x2, .inl x1, .inr (.inr x0)] (by decide +kernel) rfl ?_
      refine s_cV (Z := Y_X5_tellDesk) (c := 5) (vs := [.inl x1, .inl x2]) (st := []) (rO := fun z => some (.inl z)) (mO := fun _ => M) zk_X5_tellDesk zi_X5_tellDesk q728 rfl ⟨by decide, by decide⟩ ⟨rfl, rfl⟩ rfl rfl (Nat.le_of_ble_eq_true rfl) (by decide +kernel) (fun z hz => c_X5_tellDesk hz) (fun v7 => ?_)
      change Sim l G Y_X5_tellRow lim _ _ 20 [some (.inr (.inr x0)), some (.inl x1), some (.inl x2)] [.inl v7] M
      refine s_run (b := [(.goto 4, 3)]) 24 [some (.inr (.inr x0)), some (.inl x1), some (.inl x2)] [.inl v7] (by decide +kernel) rfl ?_
      exact s_iret (by decide +kernel) rfl
set_option maxRecDepth 20000 in
theorem c_X5_tellRow {l : Launch} {G : Gv} {M : Mem} {x0 : Nat} {x1 : Int32} {x2 : Int32} {z : Int32} (h : f_X5_tellRow M x0 x1 x2 = some z) : MetS l G Y_X5_tellRow [.inr (.inr x0), .inl x1, .inl x2] M (some (.int z)) M :=
  met_of (ls0 := [some (.inr (.inr x0)), some (.inl x1), some (.inl x2)]) (by decide) rfl (lv_in (m := 0) rfl) (sl_le (Nat.le_of_ble_eq_true rfl)) (by rw [h]; rfl) (Or.inl ⟨rfl, rfl⟩) (S_X5_tellRow M x0 x1 x2)
def f_X5_tell (M : Mem) (x0 : Nat) (x1 : Int32) : Option (Int32) :=
  (if x1 = (0 : Int32) then
    (gI M 5 x0 0).bind fun v2 =>
    some v2
  else
  (if x1 = (1 : Int32) then
    (gI M 5 x0 1).bind fun v4 =>
    some v4
  else
  (if x1 = (2 : Int32) then
    (gI M 5 x0 2).bind fun v6 =>
    some v6
  else
  (if x1 = (3 : Int32) then
    (gI M 5 x0 3).bind fun v8 =>
    some v8
  else
  (if x1 = (4 : Int32) then
    (gI M 5 x0 4).bind fun v10 =>
    some v10
  else
  (if (10 : Int32) ≤ x1 then
    (dvI x1 (10 : Int32)).bind fun v12 =>
    (rmI x1 (10 : Int32)).bind fun v13 =>
    (ob M 5 x0).bind fun _ => (f_X5_tellRow M x0 v12 v13).bind fun v14 =>
    some v14
  else
    some (-1 : Int32)))))))
set_option maxRecDepth 20000 in
theorem S_X5_tell {l : Launch} {G : Gv} {lim : Nat × Nat} (M : Mem) (x0 : Nat) (x1 : Int32) : Sim l G Y_X5_tell lim (f_X5_tell M x0 x1) (fun z => some (some (.int z), M)) 0 [some (.inr (.inr x0)), some (.inl x1)] [] M := by
  unfold f_X5_tell
  refine s_run (b := [(.iload_n 1, 1)]) 1 [some (.inr (.inr x0)), some (.inl x1)] [.inl x1] (by decide +kernel) rfl ?_
  refine s_ite (fun h1 => ?_) (fun h1 => ?_)
  · refine s_tabIn (off := 35) (tgt := 36) (dflt := 60) (lo := 0) (hi := 4) (offs := #[35, 40, 45, 50, 55]) (len := 35) (0 : Int32) (by decide +kernel) h1 rfl rfl rfl (by decide) ?_
    change Sim l G Y_X5_tell lim _ _ 36 [some (.inr (.inr x0)), some (.inl x1)] [] M
    refine s_run (b := [(.aload_n 0, 1)]) 37 [some (.inr (.inr x0)), some (.inl x1)] [.inr (.inr x0)] (by decide +kernel) rfl ?_
    refine s_gI fl_5_45 rfl (by decide +kernel) (fun v2 => ?_)
    exact s_iret (by decide +kernel) rfl
  refine s_ite (fun h3 => ?_) (fun h3 => ?_)
  · refine s_tabIn (off := 40) (tgt := 41) (dflt := 60) (lo := 0) (hi := 4) (offs := #[35, 40, 45, 50, 55]) (len := 35) (1 : Int32) (by decide +kernel) h3 rfl rfl rfl (by decide) ?_
    change Sim l G Y_X5_tell lim _ _ 41 [some (.inr (.inr x0)), some (.inl x1)] [] M
    refine s_run (b := [(.aload_n 0, 1)]) 42 [some (.inr (.inr x0)), some (.inl x1)] [.inr (.inr x0)] (by decide +kernel) rfl ?_
    refine s_gI fl_5_49 rfl (by decide +kernel) (fun v4 => ?_)
    exact s_iret (by decide +kernel) rfl
  refine s_ite (fun h5 => ?_) (fun h5 => ?_)
  · refine s_tabIn (off := 45) (tgt := 46) (dflt := 60) (lo := 0) (hi := 4) (offs := #[35, 40, 45, 50, 55]) (len := 35) (2 : Int32) (by decide +kernel) h5 rfl rfl rfl (by decide) ?_
    change Sim l G Y_X5_tell lim _ _ 46 [some (.inr (.inr x0)), some (.inl x1)] [] M
    refine s_run (b := [(.aload_n 0, 1)]) 47 [some (.inr (.inr x0)), some (.inl x1)] [.inr (.inr x0)] (by decide +kernel) rfl ?_
    refine s_gI fl_5_52 rfl (by decide +kernel) (fun v6 => ?_)
    exact s_iret (by decide +kernel) rfl
  refine s_ite (fun h7 => ?_) (fun h7 => ?_)
  · refine s_tabIn (off := 50) (tgt := 51) (dflt := 60) (lo := 0) (hi := 4) (offs := #[35, 40, 45, 50, 55]) (len := 35) (3 : Int32) (by decide +kernel) h7 rfl rfl rfl (by decide) ?_
    change Sim l G Y_X5_tell lim _ _ 51 [some (.inr (.inr x0)), some (.inl x1)] [] M
    refine s_run (b := [(.aload_n 0, 1)]) 52 [some (.inr (.inr x0)), some (.inl x1)] [.inr (.inr x0)] (by decide +kernel) rfl ?_
    refine s_gI fl_5_55 rfl (by decide +kernel) (fun v8 => ?_)
    exact s_iret (by decide +kernel) rfl
  refine s_ite (fun h9 => ?_) (fun h9 => ?_)
  · refine s_tabIn (off := 55) (tgt := 56) (dflt := 60) (lo := 0) (hi := 4) (offs := #[35, 40, 45, 50, 55]) (len := 35) (4 : Int32) (by decide +kernel) h9 rfl rfl rfl (by decide) ?_
    change Sim l G Y_X5_tell lim _ _ 56 [some (.inr (.inr x0)), some (.inl x1)] [] M
    refine s_run (b := [(.aload_n 0, 1)]) 57 [some (.inr (.inr x0)), some (.inl x1)] [.inr (.inr x0)] (by decide +kernel) rfl ?_
    refine s_gI fl_5_58 rfl (by decide +kernel) (fun v10 => ?_)
    exact s_iret (by decide +kernel) rfl
  refine s_tabOut (tgt := 61) (dflt := 60) (lo := 0) (hi := 4) (offs := #[35, 40, 45, 50, 55]) (len := 35) (by decide +kernel) (tab_out (fun k hk => by rcases (show k = 0 ∨ k = 1 ∨ k = 2 ∨ k = 3 ∨ k = 4 by omega) with rfl | rfl | rfl | rfl | rfl <;> first | exact i32_ne h1 (by decide) | exact i32_ne h3 (by decide) | exact i32_ne h5 (by decide) | exact i32_ne h7 (by decide) | exact i32_ne h9 (by decide))) (by decide) ?_
  change Sim l G Y_X5_tell lim _ _ 61 [some (.inr (.inr x0)), some (.inl x1)] [] M
  refine s_run (b := [(.iload_n 1, 1), (.bipush 10, 2)]) 64 [some (.inr (.inr x0)), some (.inl x1)] [.inl (10 : Int32), .inl x1] (by decide +kernel) rfl ?_
  refine s_ic_ge (tgt := 71) (off := 7) (by decide +kernel) (by decide) (fun h11 => ?_) (fun h11 => ?_)
  · skip
    refine s_run (b := [(.aload_n 0, 1), (.iload_n 1, 1), (.bipush 10, 2)]) 75 [some (.inr (.inr x0)), some (.inl x1)] [.inl (10 : Int32), .inl x1, .inr (.inr x0)] (by decide +kernel) rfl ?_
    refine s_idiv (by decide +kernel) (fun v12 => ?_)
    refine s_run (b := [(.iload_n 1, 1), (.bipush 10, 2)]) 79 [some (.inr (.inr x0)), some (.inl x1)] [.inl (10 : Int32), .inl x1, .inl v12, .inr (.inr x0)] (by decide +kernel) rfl ?_
    refine s_irem (by decide +kernel) (fun v13 => ?_)
    refine s_cV (Z := Y_X5_tellRow) (c := 5) (vs := [.inl v12, .inl v13]) (st := []) (rO := fun z => some (.inl z)) (mO := fun _ => M) zk_X5_tellRow zi_X5_tellRow q724 rfl ⟨by decide, by decide⟩ ⟨rfl, rfl⟩ rfl rfl (Nat.le_of_ble_eq_true rfl) (by decide +kernel) (fun z hz => c_X5_tellRow hz) (fun v14 => ?_)
    change Sim l G Y_X5_tell lim _ _ 83 [some (.inr (.inr x0)), some (.inl x1)] [.inl v14] M
    exact s_iret (by decide +kernel) rfl
  · skip
    refine s_run (b := [(.iconst (-1), 1), (.goto 15, 3)]) 83 [some (.inr (.inr x0)), some (.inl x1)] [.inl (-1 : Int32)] (by decide +kernel) rfl ?_
    exact s_iret (by decide +kernel) rfl
set_option maxRecDepth 20000 in
theorem c_X5_tell {l : Launch} {G : Gv} {M : Mem} {x0 : Nat} {x1 : Int32} {z : Int32} (h : f_X5_tell M x0 x1 = some z) : MetS l G Y_X5_tell [.inr (.inr x0), .inl x1] M (some (.int z)) M :=
  met_of (ls0 := [some (.inr (.inr x0)), some (.inl x1)]) (by decide) rfl (lv_in (m := 0) rfl) (sl_le (Nat.le_of_ble_eq_true rfl)) (by rw [h]; rfl) (Or.inl ⟨rfl, rfl⟩) (S_X5_tell M x0 x1)
def f_X11_office (M : Mem) (x0 : Nat) (x1 : Int32) (x2 : Int32) : Option (Int32) :=
  (gR M 11 x0 0).bind fun v1 =>
  (ob M 9 v1).bind fun _ => (f_X9_officeAt M v1 x1).bind fun v2 =>
  (if v2 = 0 then
    some (-1 : Int32)
  else
    (ob M 5 v2).bind fun _ => (f_X5_tell M v2 x2).bind fun v4 =>
    some v4)
set_option maxRecDepth 20000 in
theorem S_X11_office {l : Launch} {G : Gv} {lim : Nat × Nat} (M : Mem) (x0 : Nat) (x1 : Int32) (x2 : Int32) : Sim l G Y_X11_office lim (f_X11_office M x0 x1 x2) (fun z => some (some (.int z), M)) 0 [some (.inr (.inr x0)), some (.inl x1), some (.inl x2), none] [] M := by
  unfold f_X11_office
  refine s_run (b := [(.aload_n 0, 1)]) 1 [some (.inr (.inr x0)), some (.inl x1), some (.inl x2), none] [.inr (.inr x0)] (by decide +kernel) rfl ?_
  refine s_gR fl_11_10 rfl (by decide +kernel) (fun v1 => ?_)
  refine s_run (b := [(.iload_n 1, 1)]) 5 [some (.inr (.inr x0)), some (.inl x1), some (.inl x2), none] [.inl x1, .inr (.inr v1)] (by decide +kernel) rfl ?_
  refine s_cV (Z := Y_X9_officeAt) (c := 9) (vs := [.inl x1]) (st := []) (rO := fun z => some (.inr (.inr z))) (mO := fun _ => M) zk_X9_officeAt zi_X9_officeAt q716 rfl ⟨by decide, by decide⟩ ⟨rfl, rfl⟩ rfl rfl (Nat.le_of_ble_eq_true rfl) (by decide +kernel) (fun z hz => c_X9_officeAt hz) (fun v2 => ?_)
  change Sim l G Y_X11_office lim _ _ 8 [some (.inr (.inr x0)), some (.inl x1), some (.inl x2), none] [.inr (.inr v2)] M
  refine s_run (b := [(.astore_n 3, 1), (.aload_n 3, 1)]) 10 [some (.inr (.inr x0)), some (.inl x1), some (.inl x2), some (.inr (.inr v2))] [.inr (.inr v2)] (by decide +kernel) rfl ?_
  refine s_ifnonnull (tgt := 17) (off := 7) (by decide +kernel) (by decide) (fun h3 => ?_) (fun h3 => ?_)
  · skip
    refine s_run (b := [(.iconst (-1), 1), (.goto 8, 3)]) 22 [some (.inr (.inr x0)), some (.inl x1), some (.inl x2), some (.inr (.inr v2))] [.inl (-1 : Int32)] (by decide +kernel) rfl ?_
    exact s_iret (by decide +kernel) rfl
  · skip
    refine s_run (b := [(.aload_n 3, 1), (.iload_n 2, 1)]) 19 [some (.inr (.inr x0)), some (.inl x1), some (.inl x2), some (.inr (.inr v2))] [.inl x2, .inr (.inr v2)] (by decide +kernel) rfl ?_
    refine s_cV (Z := Y_X5_tell) (c := 5) (vs := [.inl x2]) (st := []) (rO := fun z => some (.inl z)) (mO := fun _ => M) zk_X5_tell zi_X5_tell q720 rfl ⟨by decide, by decide⟩ ⟨rfl, rfl⟩ rfl rfl (Nat.le_of_ble_eq_true rfl) (by decide +kernel) (fun z hz => c_X5_tell hz) (fun v4 => ?_)
    change Sim l G Y_X11_office lim _ _ 22 [some (.inr (.inr x0)), some (.inl x1), some (.inl x2), some (.inr (.inr v2))] [.inl v4] M
    exact s_iret (by decide +kernel) rfl
set_option maxRecDepth 20000 in
theorem c_X11_office {l : Launch} {G : Gv} {M : Mem} {x0 : Nat} {x1 : Int32} {x2 : Int32} {z : Int32} (h : f_X11_office M x0 x1 x2 = some z) : MetS l G Y_X11_office [.inr (.inr x0), .inl x1, .inl x2] M (some (.int z)) M :=
  met_of (ls0 := [some (.inr (.inr x0)), some (.inl x1), some (.inl x2), none]) (by decide) rfl (lv_in (m := 1) rfl) (sl_le (Nat.le_of_ble_eq_true rfl)) (by rw [h]; rfl) (Or.inl ⟨rfl, rfl⟩) (S_X11_office M x0 x1 x2)
def f_X6_gotInOrder_B10 (M : Mem) (x0 : Nat) (x2 : Int32) (x3 : Int32) : Option ((Int32 × Mem) ⊕ ((Mem))) :=
  (if x2 ≤ x3 then
    some (.inr M)
  else
    (gR M 6 x0 3).bind fun v2 =>
    (gR M 6 x0 5).bind fun v3 =>
    (aI M 0 v3 x3).bind fun v4 =>
    (ob M 2 v2).bind fun _ => (f_X2_ringEmptyDesk M v2 v4 (0 : Int32) (0 : Int32)).bind fun z5 =>
    some (.inl ((x3 + (1 : Int32)), z5)))
def f_X6_gotInOrder_L10 (M : Mem) (x0 : Nat) (x2 : Int32) (x3 : Int32) : Option ((Mem)) := iter (fun s : Int32 × Mem => f_X6_gotInOrder_B10 s.2 x0 x2 s.1) 1048576 (x3, M)
set_option maxRecDepth 20000 in
theorem B_X6_gotInOrder_10 {l : Launch} {G : Gv} {lim : Nat × Nat} (M : Mem) (x0 : Nat) (x2 : Int32) (x3 : Int32) (K : (Int32 × Mem) ⊕ ((Mem)) → Option (Option Value × Mem)) (kk1 : ∀ (s3 : Int32) (s_ : Mem), SimR l G Y_X6_gotInOrder lim (K (.inl (s3, s_))) 10 [some (.inr (.inr x0)), none, some (.inl x2), some (.inl s3)] [] s_) (kk2_0 : ∀ (s_ : Mem), SimR l G Y_X6_gotInOrder lim (K (.inr s_)) 36 [some (.inr (.inr x0)), none, none, none] [] s_) : Sim l G Y_X6_gotInOrder lim (f_X6_gotInOrder_B10 M x0 x2 x3) K 10 [some (.inr (.inr x0)), none, some (.inl x2), some (.inl x3)] [] M := by
  unfold f_X6_gotInOrder_B10
  refine s_run (b := [(.iload_n 3, 1), (.iload_n 2, 1)]) 12 [some (.inr (.inr x0)), none, some (.inl x2), some (.inl x3)] [.inl x2, .inl x3] (by decide +kernel) rfl ?_
  refine s_ic_ge (tgt := 36) (off := 24) (by decide +kernel) (by decide) (fun h1 => ?_) (fun h1 => ?_)
  · skip
    exact s_lsub (ls' := [some (.inr (.inr x0)), none, none, none]) ⟨rfl, trivial⟩ (kk2_0 M)
  · skip
    refine s_run (b := [(.aload_n 0, 1)]) 16 [some (.inr (.inr x0)), none, some (.inl x2), some (.inl x3)] [.inr (.inr x0)] (by decide +kernel) rfl ?_
    refine s_gR fl_6_18 rfl (by decide +kernel) (fun v2 => ?_)
    refine s_run (b := [(.aload_n 0, 1)]) 20 [some (.inr (.inr x0)), none, some (.inl x2), some (.inl x3)] [.inr (.inr x0), .inr (.inr v2)] (by decide +kernel) rfl ?_
    refine s_gR fl_6_29 rfl (by decide +kernel) (fun v3 => ?_)
    refine s_run (b := [(.iload_n 3, 1)]) 24 [some (.inr (.inr x0)), none, some (.inl x2), some (.inl x3)] [.inl x3, .inr (.inr v3), .inr (.inr v2)] (by decide +kernel) rfl ?_
    refine s_ia (by decide +kernel) (fun v4 => ?_)
    refine s_run (b := [(.iconst 0, 1), (.iconst 0, 1)]) 27 [some (.inr (.inr x0)), none, some (.inl x2), some (.inl x3)] [.inl (0 : Int32), .inl (0 : Int32), .inl v4, .inr (.inr v2)] (by decide +kernel) rfl ?_
    refine s_cV (Z := Y_X2_ringEmptyDesk) (c := 2) (vs := [.inl v4, .inl (0 : Int32), .inl (0 : Int32)]) (st := []) (rO := fun _ => none) (mO := fun z => z) zk_X2_ringEmptyDesk zi_X2_ringEmptyDesk q1203 rfl ⟨by decide, by decide⟩ ⟨rfl, rfl⟩ rfl rfl (Nat.le_of_ble_eq_true rfl) (by decide +kernel) (fun z hz => c_X2_ringEmptyDesk hz) (fun z5 => ?_)
    change Sim l G Y_X6_gotInOrder lim _ _ 30 [some (.inr (.inr x0)), none, some (.inl x2), some (.inl x3)] [] z5
    refine s_run (b := [(.iinc 3 1, 3), (.goto (-23), 3)]) 10 [some (.inr (.inr x0)), none, some (.inl x2), some (.inl (x3 + (1 : Int32)))] [] (by decide +kernel) rfl ?_
    exact s_lsub (ls' := [some (.inr (.inr x0)), none, some (.inl x2), some (.inl (x3 + (1 : Int32)))]) ⟨rfl, ⟨rfl, ⟨rfl, trivial⟩⟩⟩ (kk1 (x3 + (1 : Int32)) z5)
set_option maxRecDepth 20000 in
theorem L_X6_gotInOrder_10 {l : Launch} {G : Gv} {lim : Nat × Nat} (M : Mem) (x0 : Nat) (x2 : Int32) (x3 : Int32) (K : ((Mem)) → Option (Option Value × Mem)) (kk2_0 : ∀ r : Mem, SimR l G Y_X6_gotInOrder lim (K r) 36 [some (.inr (.inr x0)), none, none, none] [] r) : Sim l G Y_X6_gotInOrder lim (f_X6_gotInOrder_L10 M x0 x2 x3) K 10 [some (.inr (.inr x0)), none, some (.inl x2), some (.inl x3)] [] M :=
  s_iter (f := fun s : Int32 × Mem => f_X6_gotInOrder_B10 s.2 x0 x2 s.1) (hd := 10) (cl := fun s => [some (.inr (.inr x0)), none, some (.inl x2), some (.inl s.1)]) (cm := fun s => s.2) (xp := fun _ => 36) (xl := fun r => [some (.inr (.inr x0)), none, none, none]) (xm := fun r => r) (fun s K h1 h2 => B_X6_gotInOrder_10 s.2 x0 x2 s.1 K (fun a3 a_ => h1 (a3, a_)) (fun a_ => h2 a_)) 1048576 (x3, M) K kk2_0
def f_X6_gotInOrder (M : Mem) (x0 : Nat) (x1 : Nat) (x2 : Int32) : Option (Int32 × Mem) :=
  (gR M 6 x0 3).bind fun v1 =>
  (ob M 2 v1).bind fun _ => (f_X2_begin M v1 x1).bind fun z2 =>
  (f_X6_gotInOrder_L10 z2 x0 x2 (0 : Int32)).bind fun r3 =>
  (gR r3 6 x0 3).bind fun v4 =>
  (gI r3 2 v4 1).bind fun v5 =>
  some (v5, r3)
set_option maxRecDepth 20000 in
theorem S_X6_gotInOrder {l : Launch} {G : Gv} {lim : Nat × Nat} (M : Mem) (x0 : Nat) (x1 : Nat) (x2 : Int32) : Sim l G Y_X6_gotInOrder lim (f_X6_gotInOrder M x0 x1 x2) (fun z => some (some (.int z.1), z.2)) 0 [some (.inr (.inr x0)), some (.inr (.inr x1)), some (.inl x2), none] [] M := by
  unfold f_X6_gotInOrder
  refine s_run (b := [(.aload_n 0, 1)]) 1 [some (.inr (.inr x0)), some (.inr (.inr x1)), some (.inl x2), none] [.inr (.inr x0)] (by decide +kernel) rfl ?_
  refine s_gR fl_6_18 rfl (by decide +kernel) (fun v1 => ?_)
  refine s_run (b := [(.aload_n 1, 1)]) 5 [some (.inr (.inr x0)), some (.inr (.inr x1)), some (.inl x2), none] [.inr (.inr x1), .inr (.inr v1)] (by decide +kernel) rfl ?_
  refine s_cV (Z := Y_X2_begin) (c := 2) (vs := [.inr (.inr x1)]) (st := []) (rO := fun _ => none) (mO := fun z => z) zk_X2_begin zi_X2_begin q1202 rfl ⟨by decide, by decide⟩ ⟨rfl, rfl⟩ rfl rfl (Nat.le_of_ble_eq_true rfl) (by decide +kernel) (fun z hz => c_X2_begin hz) (fun z2 => ?_)
  change Sim l G Y_X6_gotInOrder lim _ _ 8 [some (.inr (.inr x0)), some (.inr (.inr x1)), some (.inl x2), none] [] z2
  refine s_run (b := [(.iconst 0, 1), (.istore_n 3, 1)]) 10 [some (.inr (.inr x0)), some (.inr (.inr x1)), some (.inl x2), some (.inl (0 : Int32))] [] (by decide +kernel) rfl ?_
  refine s_lsub (ls' := [some (.inr (.inr x0)), none, some (.inl x2), some (.inl (0 : Int32))]) ⟨rfl, ⟨rfl, ⟨rfl, trivial⟩⟩⟩ ?_
  refine sim_bind (L_X6_gotInOrder_10 z2 x0 x2 (0 : Int32) _ (fun r3 => ?_))
  change Sim l G Y_X6_gotInOrder lim _ _ 36 [some (.inr (.inr x0)), none, none, none] [] r3
  refine s_run (b := [(.aload_n 0, 1)]) 37 [some (.inr (.inr x0)), none, none, none] [.inr (.inr x0)] (by decide +kernel) rfl ?_
  refine s_gR fl_6_18 rfl (by decide +kernel) (fun v4 => ?_)
  refine s_gI fl_6_95 rfl (by decide +kernel) (fun v5 => ?_)
  exact s_iret (by decide +kernel) rfl
set_option maxRecDepth 20000 in
theorem c_X6_gotInOrder {l : Launch} {G : Gv} {M : Mem} {x0 : Nat} {x1 : Nat} {x2 : Int32} {z : Int32 × Mem} (h : f_X6_gotInOrder M x0 x1 x2 = some z) : MetS l G Y_X6_gotInOrder [.inr (.inr x0), .inr (.inr x1), .inl x2] M (some (.int z.1)) z.2 :=
  met_of (ls0 := [some (.inr (.inr x0)), some (.inr (.inr x1)), some (.inl x2), none]) (by decide) rfl (lv_in (m := 1) rfl) (sl_le (Nat.le_of_ble_eq_true rfl)) (by rw [h]; rfl) (Or.inl ⟨rfl, rfl⟩) (S_X6_gotInOrder M x0 x1 x2)
def f_X6_swapTrial (M : Mem) (x0 : Nat) (x1 : Int32) (x2 : Int32) : Option (Mem) :=
  (gR M 6 x0 5).bind fun v1 =>
  (aI M 0 v1 x1).bind fun v2 =>
  (gR M 6 x0 5).bind fun v3 =>
  (gR M 6 x0 5).bind fun v4 =>
  (aI M 0 v4 x2).bind fun v5 =>
  (sI M 0 v3 x1 v5).bind fun M6 =>
  (gR M6 6 x0 5).bind fun v7 =>
  (sI M6 0 v7 x2 v2).bind fun M8 =>
  some M8
set_option maxRecDepth 20000 in
theorem S_X6_swapTrial {l : Launch} {G : Gv} {lim : Nat × Nat} (M : Mem) (x0 : Nat) (x1 : Int32) (x2 : Int32) : Sim l G Y_X6_swapTrial lim (f_X6_swapTrial M x0 x1 x2) (fun z => some (none, z)) 0 [some (.inr (.inr x0)), some (.inl x1), some (.inl x2), none] [] M := by
  unfold f_X6_swapTrial
  refine s_run (b := [(.aload_n 0, 1)]) 1 [some (.inr (.inr x0)), some (.inl x1), some (.inl x2), none] [.inr (.inr x0)] (by decide +kernel) rfl ?_
  refine s_gR fl_6_29 rfl (by decide +kernel) (fun v1 => ?_)
  refine s_run (b := [(.iload_n 1, 1)]) 5 [some (.inr (.inr x0)), some (.inl x1), some (.inl x2), none] [.inl x1, .inr (.inr v1)] (by decide +kernel) rfl ?_
  refine s_ia (by decide +kernel) (fun v2 => ?_)
  refine s_run (b := [(.istore_n 3, 1), (.aload_n 0, 1)]) 8 [some (.inr (.inr x0)), some (.inl x1), some (.inl x2), some (.inl v2)] [.inr (.inr x0)] (by decide +kernel) rfl ?_
  refine s_gR fl_6_29 rfl (by decide +kernel) (fun v3 => ?_)
  refine s_run (b := [(.iload_n 1, 1), (.aload_n 0, 1)]) 13 [some (.inr (.inr x0)), some (.inl x1), some (.inl x2), some (.inl v2)] [.inr (.inr x0), .inl x1, .inr (.inr v3)] (by decide +kernel) rfl ?_
  refine s_gR fl_6_29 rfl (by decide +kernel) (fun v4 => ?_)
  refine s_run (b := [(.iload_n 2, 1)]) 17 [some (.inr (.inr x0)), some (.inl x1), some (.inl x2), some (.inl v2)] [.inl x2, .inr (.inr v4), .inl x1, .inr (.inr v3)] (by decide +kernel) rfl ?_
  refine s_ia (by decide +kernel) (fun v5 => ?_)
  refine s_is (by decide +kernel) (fun M6 => ?_)
  refine s_run (b := [(.aload_n 0, 1)]) 20 [some (.inr (.inr x0)), some (.inl x1), some (.inl x2), some (.inl v2)] [.inr (.inr x0)] (by decide +kernel) rfl ?_
  refine s_gR fl_6_29 rfl (by decide +kernel) (fun v7 => ?_)
  refine s_run (b := [(.iload_n 2, 1), (.iload_n 3, 1)]) 25 [some (.inr (.inr x0)), some (.inl x1), some (.inl x2), some (.inl v2)] [.inl v2, .inl x2, .inr (.inr v7)] (by decide +kernel) rfl ?_
  refine s_is (by decide +kernel) (fun M8 => ?_)
  exact s_vret (by decide +kernel) rfl
set_option maxRecDepth 20000 in
theorem c_X6_swapTrial {l : Launch} {G : Gv} {M : Mem} {x0 : Nat} {x1 : Int32} {x2 : Int32} {z : Mem} (h : f_X6_swapTrial M x0 x1 x2 = some z) : MetS l G Y_X6_swapTrial [.inr (.inr x0), .inl x1, .inl x2] M none z :=
  met_of (ls0 := [some (.inr (.inr x0)), some (.inl x1), some (.inl x2), none]) (by decide) rfl (lv_in (m := 1) rfl) (sl_le (Nat.le_of_ble_eq_true rfl)) (by rw [h]; rfl) (Or.inl ⟨rfl, rfl⟩) (S_X6_swapTrial M x0 x1 x2)
