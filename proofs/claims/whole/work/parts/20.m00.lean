def f_J6_bitCount_0f7a4 (M : Mem) (x0 : Int32) : Option (Int32) :=
  some ((((((((x0 - ((shr x0 (1 : Int32)) &&& (1431655765 : Int32))) &&& (858993459 : Int32)) + ((shr (x0 - ((shr x0 (1 : Int32)) &&& (1431655765 : Int32))) (2 : Int32)) &&& (858993459 : Int32))) + (shr (((x0 - ((shr x0 (1 : Int32)) &&& (1431655765 : Int32))) &&& (858993459 : Int32)) + ((shr (x0 - ((shr x0 (1 : Int32)) &&& (1431655765 : Int32))) (2 : Int32)) &&& (858993459 : Int32))) (4 : Int32))) &&& (252645135 : Int32)) + (shr (((((x0 - ((shr x0 (1 : Int32)) &&& (1431655765 : Int32))) &&& (858993459 : Int32)) + ((shr (x0 - ((shr x0 (1 : Int32)) &&& (1431655765 : Int32))) (2 : Int32)) &&& (858993459 : Int32))) + (shr (((x0 - ((shr x0 (1 : Int32)) &&& (1431655765 : Int32))) &&& (858993459 : Int32)) + ((shr (x0 - ((shr x0 (1 : Int32)) &&& (1431655765 : Int32))) (2 : Int32)) &&& (858993459 : Int32))) (4 : Int32))) &&& (252645135 : Int32)) (8 : Int32))) + (shr ((((((x0 - ((shr x0 (1 : Int32)) &&& (1431655765 : Int32))) &&& (858993459 : Int32)) + ((shr (x0 - ((shr x0 (1 : Int32)) &&& (1431655765 : Int32))) (2 : Int32)) &&& (858993459 : Int32))) + (shr (((x0 - ((shr x0 (1 : Int32)) &&& (1431655765 : Int32))) &&& (858993459 : Int32)) + ((shr (x0 - ((shr x0 (1 : Int32)) &&& (1431655765 : Int32))) (2 : Int32)) &&& (858993459 : Int32))) (4 : Int32))) &&& (252645135 : Int32)) + (shr (((((x0 - ((shr x0 (1 : Int32)) &&& (1431655765 : Int32))) &&& (858993459 : Int32)) + ((shr (x0 - ((shr x0 (1 : Int32)) &&& (1431655765 : Int32))) (2 : Int32)) &&& (858993459 : Int32))) + (shr (((x0 - ((shr x0 (1 : Int32)) &&& (1431655765 : Int32))) &&& (858993459 : Int32)) + ((shr (x0 - ((shr x0 (1 : Int32)) &&& (1431655765 : Int32))) (2 : Int32)) &&& (858993459 : Int32))) (4 : Int32))) &&& (252645135 : Int32)) (8 : Int32))) (16 : Int32))) &&& (63 : Int32))
set_option maxRecDepth 20000 in
theorem S_J6_bitCount_0f7a4 {l : Launch} {G : Gv} {lim : Nat × Nat} (M : Mem) (x0 : Int32) : Sim l G Y_J6_bitCount_0f7a4 lim (f_J6_bitCount_0f7a4 M x0) (fun z => some (some (.int z), M)) 0 [some (.inl x0)] [] M := by
  unfold f_J6_bitCount_0f7a4
  refine s_run (b := [(.iload_n 0, 1), (.iload_n 0, 1), (.iconst 1, 1), (.iushr, 1)]) 4 [some (.inl x0)] [.inl (shr x0 (1 : Int32)), .inl x0] (by decide +kernel) rfl ?_
  refine s_ldcw q821 (by decide +kernel) ?_
  change Sim l G Y_J6_bitCount_0f7a4 lim _ _ 7 [some (.inl x0)] [.inl (1431655765 : Int32), .inl (shr x0 (1 : Int32)), .inl x0] M
  refine s_run (b := [(.iand, 1), (.isub, 1), (.istore_n 0, 1), (.iload_n 0, 1)]) 11 [some (.inl (x0 - ((shr x0 (1 : Int32)) &&& (1431655765 : Int32))))] [.inl (x0 - ((shr x0 (1 : Int32)) &&& (1431655765 : Int32)))] (by decide +kernel) rfl ?_
  refine s_ldcw q822 (by decide +kernel) ?_
  change Sim l G Y_J6_bitCount_0f7a4 lim _ _ 14 [some (.inl (x0 - ((shr x0 (1 : Int32)) &&& (1431655765 : Int32))))] [.inl (858993459 : Int32), .inl (x0 - ((shr x0 (1 : Int32)) &&& (1431655765 : Int32)))] M
  refine s_run (b := [(.iand, 1), (.iload_n 0, 1), (.iconst 2, 1), (.iushr, 1)]) 18 [some (.inl (x0 - ((shr x0 (1 : Int32)) &&& (1431655765 : Int32))))] [.inl (shr (x0 - ((shr x0 (1 : Int32)) &&& (1431655765 : Int32))) (2 : Int32)), .inl ((x0 - ((shr x0 (1 : Int32)) &&& (1431655765 : Int32))) &&& (858993459 : Int32))] (by decide +kernel) rfl ?_
  refine s_ldcw q822 (by decide +kernel) ?_
  change Sim l G Y_J6_bitCount_0f7a4 lim _ _ 21 [some (.inl (x0 - ((shr x0 (1 : Int32)) &&& (1431655765 : Int32))))] [.inl (858993459 : Int32), .inl (shr (x0 - ((shr x0 (1 : Int32)) &&& (1431655765 : Int32))) (2 : Int32)), .inl ((x0 - ((shr x0 (1 : Int32)) &&& (1431655765 : Int32))) &&& (858993459 : Int32))] M
  refine s_run (b := [(.iand, 1), (.iadd, 1), (.istore_n 0, 1), (.iload_n 0, 1), (.iload_n 0, 1), (.iconst 4, 1), (.iushr, 1), (.iadd, 1)]) 29 [some (.inl (((x0 - ((shr x0 (1 : Int32)) &&& (1431655765 : Int32))) &&& (858993459 : Int32)) + ((shr (x0 - ((shr x0 (1 : Int32)) &&& (1431655765 : Int32))) (2 : Int32)) &&& (858993459 : Int32))))] [.inl ((((x0 - ((shr x0 (1 : Int32)) &&& (1431655765 : Int32))) &&& (858993459 : Int32)) + ((shr (x0 - ((shr x0 (1 : Int32)) &&& (1431655765 : Int32))) (2 : Int32)) &&& (858993459 : Int32))) + (shr (((x0 - ((shr x0 (1 : Int32)) &&& (1431655765 : Int32))) &&& (858993459 : Int32)) + ((shr (x0 - ((shr x0 (1 : Int32)) &&& (1431655765 : Int32))) (2 : Int32)) &&& (858993459 : Int32))) (4 : Int32)))] (by decide +kernel) rfl ?_
  refine s_ldcw q823 (by decide +kernel) ?_
  change Sim l G Y_J6_bitCount_0f7a4 lim _ _ 32 [some (.inl (((x0 - ((shr x0 (1 : Int32)) &&& (1431655765 : Int32))) &&& (858993459 : Int32)) + ((shr (x0 - ((shr x0 (1 : Int32)) &&& (1431655765 : Int32))) (2 : Int32)) &&& (858993459 : Int32))))] [.inl (252645135 : Int32), .inl ((((x0 - ((shr x0 (1 : Int32)) &&& (1431655765 : Int32))) &&& (858993459 : Int32)) + ((shr (x0 - ((shr x0 (1 : Int32)) &&& (1431655765 : Int32))) (2 : Int32)) &&& (858993459 : Int32))) + (shr (((x0 - ((shr x0 (1 : Int32)) &&& (1431655765 : Int32))) &&& (858993459 : Int32)) + ((shr (x0 - ((shr x0 (1 : Int32)) &&& (1431655765 : Int32))) (2 : Int32)) &&& (858993459 : Int32))) (4 : Int32)))] M
  refine s_run (b := [(.iand, 1), (.istore_n 0, 1), (.iload_n 0, 1), (.iload_n 0, 1), (.bipush 8, 2), (.iushr, 1), (.iadd, 1), (.istore_n 0, 1), (.iload_n 0, 1), (.iload_n 0, 1), (.bipush 16, 2), (.iushr, 1), (.iadd, 1), (.istore_n 0, 1), (.iload_n 0, 1), (.bipush 63, 2), (.iand, 1)]) 52 [some (.inl (((((((x0 - ((shr x0 (1 : Int32)) &&& (1431655765 : Int32))) &&& (858993459 : Int32)) + ((shr (x0 - ((shr x0 (1 : Int32)) &&& (1431655765 : Int32))) (2 : Int32)) &&& (858993459 : Int32))) + (shr (((x0 - ((shr x0 (1 : Int32)) &&& (1431655765 : Int32))) &&& (858993459 : Int32)) + ((shr (x0 - ((shr x0 (1 : Int32)) &&& (1431655765 : Int32))) (2 : Int32)) &&& (858993459 : Int32))) (4 : Int32))) &&& (252645135 : Int32)) + (shr (((((x0 - ((shr x0 (1 : Int32)) &&& (1431655765 : Int32))) &&& (858993459 : Int32)) + ((shr (x0 - ((shr x0 (1 : Int32)) &&& (1431655765 : Int32))) (2 : Int32)) &&& (858993459 : Int32))) + (shr (((x0 - ((shr x0 (1 : Int32)) &&& (1431655765 : Int32))) &&& (858993459 : Int32)) + ((shr (x0 - ((shr x0 (1 : Int32)) &&& (1431655765 : Int32))) (2 : Int32)) &&& (858993459 : Int32))) (4 : Int32))) &&& (252645135 : Int32)) (8 : Int32))) + (shr ((((((x0 - ((shr x0 (1 : Int32)) &&& (1431655765 : Int32))) &&& (858993459 : Int32)) + ((shr (x0 - ((shr x0 (1 : Int32)) &&& (1431655765 : Int32))) (2 : Int32)) &&& (858993459 : Int32))) + (shr (((x0 - ((shr x0 (1 : Int32)) &&& (1431655765 : Int32))) &&& (858993459 : Int32)) + ((shr (x0 - ((shr x0 (1 : Int32)) &&& (1431655765 : Int32))) (2 : Int32)) &&& (858993459 : Int32))) (4 : Int32))) &&& (252645135 : Int32)) + (shr (((((x0 - ((shr x0 (1 : Int32)) &&& (1431655765 : Int32))) &&& (858993459 : Int32)) + ((shr (x0 - ((shr x0 (1 : Int32)) &&& (1431655765 : Int32))) (2 : Int32)) &&& (858993459 : Int32))) + (shr (((x0 - ((shr x0 (1 : Int32)) &&& (1431655765 : Int32))) &&& (858993459 : Int32)) + ((shr (x0 - ((shr x0 (1 : Int32)) &&& (1431655765 : Int32))) (2 : Int32)) &&& (858993459 : Int32))) (4 : Int32))) &&& (252645135 : Int32)) (8 : Int32))) (16 : Int32))))] [.inl ((((((((x0 - ((shr x0 (1 : Int32)) &&& (1431655765 : Int32))) &&& (858993459 : Int32)) + ((shr (x0 - ((shr x0 (1 : Int32)) &&& (1431655765 : Int32))) (2 : Int32)) &&& (858993459 : Int32))) + (shr (((x0 - ((shr x0 (1 : Int32)) &&& (1431655765 : Int32))) &&& (858993459 : Int32)) + ((shr (x0 - ((shr x0 (1 : Int32)) &&& (1431655765 : Int32))) (2 : Int32)) &&& (858993459 : Int32))) (4 : Int32))) &&& (252645135 : Int32)) + (shr (((((x0 - ((shr x0 (1 : Int32)) &&& (1431655765 : Int32))) &&& (858993459 : Int32)) + ((shr (x0 - ((shr x0 (1 : Int32)) &&& (1431655765 : Int32))) (2 : Int32)) &&& (858993459 : Int32))) + (shr (((x0 - ((shr x0 (1 : Int32)) &&& (1431655765 : Int32))) &&& (858993459 : Int32)) + ((shr (x0 - ((shr x0 (1 : Int32)) &&& (1431655765 : Int32))) (2 : Int32)) &&& (858993459 : Int32))) (4 : Int32))) &&& (252645135 : Int32)) (8 : Int32))) + (shr ((((((x0 - ((shr x0 (1 : Int32)) &&& (1431655765 : Int32))) &&& (858993459 : Int32)) + ((shr (x0 - ((shr x0 (1 : Int32)) &&& (1431655765 : Int32))) (2 : Int32)) &&& (858993459 : Int32))) + (shr (((x0 - ((shr x0 (1 : Int32)) &&& (1431655765 : Int32))) &&& (858993459 : Int32)) + ((shr (x0 - ((shr x0 (1 : Int32)) &&& (1431655765 : Int32))) (2 : Int32)) &&& (858993459 : Int32))) (4 : Int32))) &&& (252645135 : Int32)) + (shr (((((x0 - ((shr x0 (1 : Int32)) &&& (1431655765 : Int32))) &&& (858993459 : Int32)) + ((shr (x0 - ((shr x0 (1 : Int32)) &&& (1431655765 : Int32))) (2 : Int32)) &&& (858993459 : Int32))) + (shr (((x0 - ((shr x0 (1 : Int32)) &&& (1431655765 : Int32))) &&& (858993459 : Int32)) + ((shr (x0 - ((shr x0 (1 : Int32)) &&& (1431655765 : Int32))) (2 : Int32)) &&& (858993459 : Int32))) (4 : Int32))) &&& (252645135 : Int32)) (8 : Int32))) (16 : Int32))) &&& (63 : Int32))] (by decide +kernel) rfl ?_
  exact s_iret (by decide +kernel) rfl
set_option maxRecDepth 20000 in
theorem c_J6_bitCount_0f7a4 {l : Launch} {G : Gv} {M : Mem} {x0 : Int32} {z : Int32} (h : f_J6_bitCount_0f7a4 M x0 = some z) : MetS l G Y_J6_bitCount_0f7a4 [.inl x0] M (some (.int z)) M :=
  met_of (ls0 := [some (.inl x0)]) (by decide) rfl (lv_in (m := 0) rfl) (sl_le (Nat.le_of_ble_eq_true rfl)) (by rw [h]; rfl) (Or.inl ⟨rfl, rfl⟩) (S_J6_bitCount_0f7a4 M x0)
def f_X2_mostHelped_B4 (M : Mem) (x0 : Nat) (x1 : Int32) (x2 : Int32) : Option ((Int32 × Int32) ⊕ ((Int32))) :=
  (if (8 : Int32) ≤ x2 then
    some (.inr x1)
  else
    (gR M 2 x0 9).bind fun v2 =>
    (aI M 0 v2 x2).bind fun v3 =>
    some (.inl ((imax x1 v3), (x2 + (1 : Int32)))))
def f_X2_mostHelped_L4 (M : Mem) (x0 : Nat) (x1 : Int32) (x2 : Int32) : Option ((Int32)) := iter (fun s : Int32 × Int32 => f_X2_mostHelped_B4 M x0 s.1 s.2) 1048576 (x1, x2)
set_option maxRecDepth 20000 in
theorem B_X2_mostHelped_4 {l : Launch} {G : Gv} {lim : Nat × Nat} (M : Mem) (x0 : Nat) (x1 : Int32) (x2 : Int32) (K : (Int32 × Int32) ⊕ ((Int32)) → Option (Option Value × Mem)) (kk1 : ∀ (s1 : Int32) (s2 : Int32), SimR l G Y_X2_mostHelped lim (K (.inl (s1, s2))) 4 [some (.inr (.inr x0)), some (.inl s1), some (.inl s2)] [] M) (kk2_0 : ∀ (s1 : Int32), SimR l G Y_X2_mostHelped lim (K (.inr s1)) 27 [none, some (.inl s1), none] [] M) : Sim l G Y_X2_mostHelped lim (f_X2_mostHelped_B4 M x0 x1 x2) K 4 [some (.inr (.inr x0)), some (.inl x1), some (.inl x2)] [] M := by
  unfold f_X2_mostHelped_B4
  refine s_run (b := [(.iload_n 2, 1), (.bipush 8, 2)]) 7 [some (.inr (.inr x0)), some (.inl x1), some (.inl x2)] [.inl (8 : Int32), .inl x2] (by decide +kernel) rfl ?_
  refine s_ic_ge (tgt := 27) (off := 20) (by decide +kernel) (by decide) (fun h1 => ?_) (fun h1 => ?_)
  · skip
    exact s_lsub (ls' := [none, some (.inl x1), none]) ⟨rfl, trivial⟩ (kk2_0 x1)
  · skip
    refine s_run (b := [(.iload_n 1, 1), (.aload_n 0, 1)]) 12 [some (.inr (.inr x0)), some (.inl x1), some (.inl x2)] [.inr (.inr x0), .inl x1] (by decide +kernel) rfl ?_
    refine s_gR fl_2_18 rfl (by decide +kernel) (fun v2 => ?_)
    refine s_run (b := [(.iload_n 2, 1)]) 16 [some (.inr (.inr x0)), some (.inl x1), some (.inl x2)] [.inl x2, .inr (.inr v2), .inl x1] (by decide +kernel) rfl ?_
    refine s_ia (by decide +kernel) (fun v3 => ?_)
    refine s_imax q1092 ⟨Nat.le_of_ble_eq_true rfl, Nat.le_of_ble_eq_true rfl⟩ (by decide +kernel) ?_
    change Sim l G Y_X2_mostHelped lim _ _ 20 [some (.inr (.inr x0)), some (.inl x1), some (.inl x2)] [.inl (imax x1 v3)] M
    refine s_run (b := [(.istore_n 1, 1), (.iinc 2 1, 3), (.goto (-20), 3)]) 4 [some (.inr (.inr x0)), some (.inl (imax x1 v3)), some (.inl (x2 + (1 : Int32)))] [] (by decide +kernel) rfl ?_
    exact s_lsub (ls' := [some (.inr (.inr x0)), some (.inl (imax x1 v3)), some (.inl (x2 + (1 : Int32)))]) ⟨rfl, ⟨rfl, ⟨rfl, trivial⟩⟩⟩ (kk1 (imax x1 v3) (x2 + (1 : Int32)))
set_option maxRecDepth 20000 in
theorem L_X2_mostHelped_4 {l : Launch} {G : Gv} {lim : Nat × Nat} (M : Mem) (x0 : Nat) (x1 : Int32) (x2 : Int32) (K : ((Int32)) → Option (Option Value × Mem)) (kk2_0 : ∀ r : Int32, SimR l G Y_X2_mostHelped lim (K r) 27 [none, some (.inl r), none] [] M) : Sim l G Y_X2_mostHelped lim (f_X2_mostHelped_L4 M x0 x1 x2) K 4 [some (.inr (.inr x0)), some (.inl x1), some (.inl x2)] [] M :=
  s_iter (f := fun s : Int32 × Int32 => f_X2_mostHelped_B4 M x0 s.1 s.2) (hd := 4) (cl := fun s => [some (.inr (.inr x0)), some (.inl s.1), some (.inl s.2)]) (cm := fun s => M) (xp := fun _ => 27) (xl := fun r => [none, some (.inl r), none]) (xm := fun r => M) (fun s K h1 h2 => B_X2_mostHelped_4 M x0 s.1 s.2 K (fun a1 a2 => h1 (a1, a2)) (fun a1 => h2 a1)) 1048576 (x1, x2) K kk2_0
def f_X2_mostHelped (M : Mem) (x0 : Nat) : Option (Int32) :=
  (f_X2_mostHelped_L4 M x0 (0 : Int32) (0 : Int32)).bind fun r1 =>
  some r1
set_option maxRecDepth 20000 in
theorem S_X2_mostHelped {l : Launch} {G : Gv} {lim : Nat × Nat} (M : Mem) (x0 : Nat) : Sim l G Y_X2_mostHelped lim (f_X2_mostHelped M x0) (fun z => some (some (.int z), M)) 0 [some (.inr (.inr x0)), none, none] [] M := by
  unfold f_X2_mostHelped
  refine s_run (b := [(.iconst 0, 1), (.istore_n 1, 1), (.iconst 0, 1), (.istore_n 2, 1)]) 4 [some (.inr (.inr x0)), some (.inl (0 : Int32)), some (.inl (0 : Int32))] [] (by decide +kernel) rfl ?_
  refine s_lsub (ls' := [some (.inr (.inr x0)), some (.inl (0 : Int32)), some (.inl (0 : Int32))]) ⟨rfl, ⟨rfl, ⟨rfl, trivial⟩⟩⟩ ?_
  refine sim_bind (L_X2_mostHelped_4 M x0 (0 : Int32) (0 : Int32) _ (fun r1 => ?_))
  change Sim l G Y_X2_mostHelped lim _ _ 27 [none, some (.inl r1), none] [] M
  refine s_run (b := [(.iload_n 1, 1)]) 28 [none, some (.inl r1), none] [.inl r1] (by decide +kernel) rfl ?_
  exact s_iret (by decide +kernel) rfl
set_option maxRecDepth 20000 in
theorem c_X2_mostHelped {l : Launch} {G : Gv} {M : Mem} {x0 : Nat} {z : Int32} (h : f_X2_mostHelped M x0 = some z) : MetS l G Y_X2_mostHelped [.inr (.inr x0)] M (some (.int z)) M :=
  met_of (ls0 := [some (.inr (.inr x0)), none, none]) (by decide) rfl (lv_in (m := 2) rfl) (sl_le (Nat.le_of_ble_eq_true rfl)) (by rw [h]; rfl) (Or.inl ⟨rfl, rfl⟩) (S_X2_mostHelped M x0)
def f_X2_chiefHelper_B7 (M : Mem) (x0 : Nat) (x1 : Int32) (x2 : Int32) : Option ((Int32) ⊕ ((Int32) ⊕ (Unit))) :=
  (if (8 : Int32) ≤ x2 then
    some (.inr (.inr ()))
  else
    (if x1 ≤ 0 then
      some (.inl (x2 + (1 : Int32)))
    else
      (gR M 2 x0 9).bind fun v3 =>
      (aI M 0 v3 x2).bind fun v4 =>
      (if v4 = x1 then
        some (.inr (.inl x2))
      else
        some (.inl (x2 + (1 : Int32))))))
def f_X2_chiefHelper_L7 (M : Mem) (x0 : Nat) (x1 : Int32) (x2 : Int32) : Option ((Int32) ⊕ (Unit)) := iter (fun s : Int32 => f_X2_chiefHelper_B7 M x0 x1 s) 1048576 x2
set_option maxRecDepth 20000 in
theorem B_X2_chiefHelper_7 {l : Launch} {G : Gv} {lim : Nat × Nat} (M : Mem) (x0 : Nat) (x1 : Int32) (x2 : Int32) (K : (Int32) ⊕ ((Int32) ⊕ (Unit)) → Option (Option Value × Mem)) (kk1 : ∀ (s2 : Int32), SimR l G Y_X2_chiefHelper lim (K (.inl s2)) 7 [some (.inr (.inr x0)), some (.inl x1), some (.inl s2)] [] M) (kk2_0 : ∀ (s2 : Int32), SimR l G Y_X2_chiefHelper lim (K (.inr (.inl s2))) 27 [none, none, some (.inl s2)] [] M) (kk2_1 : SimR l G Y_X2_chiefHelper lim (K (.inr (.inr ()))) 35 [none, none, none] [] M) : Sim l G Y_X2_chiefHelper lim (f_X2_chiefHelper_B7 M x0 x1 x2) K 7 [some (.inr (.inr x0)), some (.inl x1), some (.inl x2)] [] M := by
  unfold f_X2_chiefHelper_B7
  refine s_run (b := [(.iload_n 2, 1), (.bipush 8, 2)]) 10 [some (.inr (.inr x0)), some (.inl x1), some (.inl x2)] [.inl (8 : Int32), .inl x2] (by decide +kernel) rfl ?_
  refine s_ic_ge (tgt := 35) (off := 25) (by decide +kernel) (by decide) (fun h1 => ?_) (fun h1 => ?_)
  · skip
    exact s_lsub (ls' := [none, none, none]) trivial (kk2_1 )
  · skip
    refine s_run (b := [(.iload_n 1, 1)]) 14 [some (.inr (.inr x0)), some (.inl x1), some (.inl x2)] [.inl x1] (by decide +kernel) rfl ?_
    refine s_if_le (tgt := 29) (off := 15) (by decide +kernel) (by decide) (fun h2 => ?_) (fun h2 => ?_)
    · skip
      refine s_run (b := [(.iinc 2 1, 3), (.goto (-25), 3)]) 7 [some (.inr (.inr x0)), some (.inl x1), some (.inl (x2 + (1 : Int32)))] [] (by decide +kernel) rfl ?_
      exact s_lsub (ls' := [some (.inr (.inr x0)), some (.inl x1), some (.inl (x2 + (1 : Int32)))]) ⟨rfl, ⟨rfl, ⟨rfl, trivial⟩⟩⟩ (kk1 (x2 + (1 : Int32)))
    · skip
      refine s_run (b := [(.aload_n 0, 1)]) 18 [some (.inr (.inr x0)), some (.inl x1), some (.inl x2)] [.inr (.inr x0)] (by decide +kernel) rfl ?_
      refine s_gR fl_2_18 rfl (by decide +kernel) (fun v3 => ?_)
      refine s_run (b := [(.iload_n 2, 1)]) 22 [some (.inr (.inr x0)), some (.inl x1), some (.inl x2)] [.inl x2, .inr (.inr v3)] (by decide +kernel) rfl ?_
      refine s_ia (by decide +kernel) (fun v4 => ?_)
      refine s_run (b := [(.iload_n 1, 1)]) 24 [some (.inr (.inr x0)), some (.inl x1), some (.inl x2)] [.inl x1, .inl v4] (by decide +kernel) rfl ?_
      refine s_ic_ne (tgt := 29) (off := 5) (by decide +kernel) (by decide) (fun h5 => ?_) (fun h5 => ?_)
      · skip
        exact s_lsub (ls' := [none, none, some (.inl x2)]) ⟨rfl, trivial⟩ (kk2_0 x2)
      · skip
        refine s_run (b := [(.iinc 2 1, 3), (.goto (-25), 3)]) 7 [some (.inr (.inr x0)), some (.inl x1), some (.inl (x2 + (1 : Int32)))] [] (by decide +kernel) rfl ?_
        exact s_lsub (ls' := [some (.inr (.inr x0)), some (.inl x1), some (.inl (x2 + (1 : Int32)))]) ⟨rfl, ⟨rfl, ⟨rfl, trivial⟩⟩⟩ (kk1 (x2 + (1 : Int32)))
set_option maxRecDepth 20000 in
theorem L_X2_chiefHelper_7 {l : Launch} {G : Gv} {lim : Nat × Nat} (M : Mem) (x0 : Nat) (x1 : Int32) (x2 : Int32) (K : ((Int32) ⊕ (Unit)) → Option (Option Value × Mem)) (kk2_0 : ∀ r : Int32, SimR l G Y_X2_chiefHelper lim (K (.inl r)) 27 [none, none, some (.inl r)] [] M) (kk2_1 : ∀ r : Unit, SimR l G Y_X2_chiefHelper lim (K (.inr r)) 35 [none, none, none] [] M) : Sim l G Y_X2_chiefHelper lim (f_X2_chiefHelper_L7 M x0 x1 x2) K 7 [some (.inr (.inr x0)), some (.inl x1), some (.inl x2)] [] M :=
  s_iter (f := fun s : Int32 => f_X2_chiefHelper_B7 M x0 x1 s) (hd := 7) (cl := fun s => [some (.inr (.inr x0)), some (.inl x1), some (.inl s)]) (cm := fun s => M) (xp := (fun r => match r with | .inl r => 27 | .inr r => 35)) (xl := (fun r => match r with | .inl r => [none, none, some (.inl r)] | .inr r => [none, none, none])) (xm := (fun r => match r with | .inl r => M | .inr r => M)) (fun s K h1 h2 => B_X2_chiefHelper_7 M x0 x1 s K (fun a2 => h1 a2) (fun a2 => h2 (.inl a2)) (h2 (.inr ()))) 1048576 x2 K (fun r => by
    rcases r with r | r
    · exact kk2_0 r
    · exact kk2_1 r)
def f_X2_chiefHelper (M : Mem) (x0 : Nat) : Option (Int32) :=
  (ob M 2 x0).bind fun _ => (f_X2_mostHelped M x0).bind fun v1 =>
  ((f_X2_chiefHelper_L7 M x0 v1 (0 : Int32)).bind fun r2 => match r2 with
  | .inl r2 => some r2
  | .inr r2 => some (-1 : Int32))
set_option maxRecDepth 20000 in
theorem S_X2_chiefHelper {l : Launch} {G : Gv} {lim : Nat × Nat} (M : Mem) (x0 : Nat) : Sim l G Y_X2_chiefHelper lim (f_X2_chiefHelper M x0) (fun z => some (some (.int z), M)) 0 [some (.inr (.inr x0)), none, none] [] M := by
  unfold f_X2_chiefHelper
  refine s_run (b := [(.aload_n 0, 1)]) 1 [some (.inr (.inr x0)), none, none] [.inr (.inr x0)] (by decide +kernel) rfl ?_
  refine s_cV (Z := Y_X2_mostHelped) (c := 2) (vs := []) (st := []) (rO := fun z => some (.inl z)) (mO := fun _ => M) zk_X2_mostHelped zi_X2_mostHelped q1221 rfl ⟨by decide, by decide⟩ ⟨rfl, rfl⟩ rfl rfl (Nat.le_of_ble_eq_true rfl) (by decide +kernel) (fun z hz => c_X2_mostHelped hz) (fun v1 => ?_)
  change Sim l G Y_X2_chiefHelper lim _ _ 4 [some (.inr (.inr x0)), none, none] [.inl v1] M
  refine s_run (b := [(.istore_n 1, 1), (.iconst 0, 1), (.istore_n 2, 1)]) 7 [some (.inr (.inr x0)), some (.inl v1), some (.inl (0 : Int32))] [] (by decide +kernel) rfl ?_
  refine s_lsub (ls' := [some (.inr (.inr x0)), some (.inl v1), some (.inl (0 : Int32))]) ⟨rfl, ⟨rfl, ⟨rfl, trivial⟩⟩⟩ ?_
  refine sim_bind (L_X2_chiefHelper_7 M x0 v1 (0 : Int32) _ (fun r2 => ?_) (fun r2 => ?_))
  · change Sim l G Y_X2_chiefHelper lim _ _ 27 [none, none, some (.inl r2)] [] M
    refine s_run (b := [(.iload_n 2, 1)]) 28 [none, none, some (.inl r2)] [.inl r2] (by decide +kernel) rfl ?_
    exact s_iret (by decide +kernel) rfl
  · change Sim l G Y_X2_chiefHelper lim _ _ 35 [none, none, none] [] M
    refine s_run (b := [(.iconst (-1), 1)]) 36 [none, none, none] [.inl (-1 : Int32)] (by decide +kernel) rfl ?_
    exact s_iret (by decide +kernel) rfl
set_option maxRecDepth 20000 in
theorem c_X2_chiefHelper {l : Launch} {G : Gv} {M : Mem} {x0 : Nat} {z : Int32} (h : f_X2_chiefHelper M x0 = some z) : MetS l G Y_X2_chiefHelper [.inr (.inr x0)] M (some (.int z)) M :=
  met_of (ls0 := [some (.inr (.inr x0)), none, none]) (by decide) rfl (lv_in (m := 2) rfl) (sl_le (Nat.le_of_ble_eq_true rfl)) (by rw [h]; rfl) (Or.inl ⟨rfl, rfl⟩) (S_X2_chiefHelper M x0)
def f_X2_readSlips (M : Mem) (x0 : Nat) (x1 : Int32) : Option (Int32 × Mem) :=
  (gR M 2 x0 10).bind fun v1 =>
  (aI M 0 v1 x1).bind fun v2 =>
  (if v2 = 0 then
    some ((0 : Int32), M)
  else
    (gR M 2 x0 11).bind fun v4 =>
    (aI M 0 v4 x1).bind fun v5 =>
    (gR M 2 x0 10).bind fun v6 =>
    (aI M 0 v6 x1).bind fun v7 =>
    (sI M 0 v4 x1 (v5 + v7)).bind fun M8 =>
    (gR M8 2 x0 10).bind fun v9 =>
    (sI M8 0 v9 x1 (0 : Int32)).bind fun M10 =>
    some ((1 : Int32), M10))
set_option maxRecDepth 20000 in
theorem S_X2_readSlips {l : Launch} {G : Gv} {lim : Nat × Nat} (M : Mem) (x0 : Nat) (x1 : Int32) : Sim l G Y_X2_readSlips lim (f_X2_readSlips M x0 x1) (fun z => some (some (.int z.1), z.2)) 0 [some (.inr (.inr x0)), some (.inl x1)] [] M := by
  unfold f_X2_readSlips
  refine s_run (b := [(.aload_n 0, 1)]) 1 [some (.inr (.inr x0)), some (.inl x1)] [.inr (.inr x0)] (by decide +kernel) rfl ?_
  refine s_gR fl_2_22 rfl (by decide +kernel) (fun v1 => ?_)
  refine s_run (b := [(.iload_n 1, 1)]) 5 [some (.inr (.inr x0)), some (.inl x1)] [.inl x1, .inr (.inr v1)] (by decide +kernel) rfl ?_
  refine s_ia (by decide +kernel) (fun v2 => ?_)
  refine s_if_ne (tgt := 11) (off := 5) (by decide +kernel) (by decide) (fun h3 => ?_) (fun h3 => ?_)
  · skip
    refine s_run (b := [(.iconst 0, 1)]) 10 [some (.inr (.inr x0)), some (.inl x1)] [.inl (0 : Int32)] (by decide +kernel) rfl ?_
    exact s_bret (Or.inl rfl) (by decide +kernel) rfl
  · skip
    refine s_run (b := [(.aload_n 0, 1)]) 12 [some (.inr (.inr x0)), some (.inl x1)] [.inr (.inr x0)] (by decide +kernel) rfl ?_
    refine s_gR fl_2_25 rfl (by decide +kernel) (fun v4 => ?_)
    refine s_run (b := [(.iload_n 1, 1), (.dup2, 1)]) 17 [some (.inr (.inr x0)), some (.inl x1)] [.inl x1, .inr (.inr v4), .inl x1, .inr (.inr v4)] (by decide +kernel) rfl ?_
    refine s_ia (by decide +kernel) (fun v5 => ?_)
    refine s_run (b := [(.aload_n 0, 1)]) 19 [some (.inr (.inr x0)), some (.inl x1)] [.inr (.inr x0), .inl v5, .inl x1, .inr (.inr v4)] (by decide +kernel) rfl ?_
    refine s_gR fl_2_22 rfl (by decide +kernel) (fun v6 => ?_)
    refine s_run (b := [(.iload_n 1, 1)]) 23 [some (.inr (.inr x0)), some (.inl x1)] [.inl x1, .inr (.inr v6), .inl v5, .inl x1, .inr (.inr v4)] (by decide +kernel) rfl ?_
    refine s_ia (by decide +kernel) (fun v7 => ?_)
    refine s_run (b := [(.iadd, 1)]) 25 [some (.inr (.inr x0)), some (.inl x1)] [.inl (v5 + v7), .inl x1, .inr (.inr v4)] (by decide +kernel) rfl ?_
    refine s_is (by decide +kernel) (fun M8 => ?_)
    refine s_run (b := [(.aload_n 0, 1)]) 27 [some (.inr (.inr x0)), some (.inl x1)] [.inr (.inr x0)] (by decide +kernel) rfl ?_
    refine s_gR fl_2_22 rfl (by decide +kernel) (fun v9 => ?_)
    refine s_run (b := [(.iload_n 1, 1), (.iconst 0, 1)]) 32 [some (.inr (.inr x0)), some (.inl x1)] [.inl (0 : Int32), .inl x1, .inr (.inr v9)] (by decide +kernel) rfl ?_
    refine s_is (by decide +kernel) (fun M10 => ?_)
    refine s_run (b := [(.iconst 1, 1)]) 34 [some (.inr (.inr x0)), some (.inl x1)] [.inl (1 : Int32)] (by decide +kernel) rfl ?_
    exact s_bret (Or.inr rfl) (by decide +kernel) rfl
set_option maxRecDepth 20000 in
theorem c_X2_readSlips {l : Launch} {G : Gv} {M : Mem} {x0 : Nat} {x1 : Int32} {z : Int32 × Mem} (h : f_X2_readSlips M x0 x1 = some z) : MetS l G Y_X2_readSlips [.inr (.inr x0), .inl x1] M (some (.int z.1)) z.2 :=
  met_of (ls0 := [some (.inr (.inr x0)), some (.inl x1)]) (by decide) rfl (lv_in (m := 0) rfl) (sl_le (Nat.le_of_ble_eq_true rfl)) (by rw [h]; rfl) (Or.inl ⟨rfl, rfl⟩) (S_X2_readSlips M x0 x1)
def f_X2_miss_J42 (M : Mem) (x0 : Nat)  : Option (Mem) :=
  (gI M 2 x0 5).bind fun v1 =>
  (pI M 2 x0 5 (v1 + (1 : Int32))).bind fun M2 =>
  some M2
set_option maxRecDepth 20000 in
theorem J_X2_miss_42 {l : Launch} {G : Gv} {lim : Nat × Nat} (M : Mem) (x0 : Nat)   : Sim l G Y_X2_miss lim (f_X2_miss_J42 M x0) (fun z => some (none, z)) 42 [some (.inr (.inr x0)), none] [] M := by
  unfold f_X2_miss_J42
  refine s_run (b := [(.aload_n 0, 1), (.dup, 1)]) 44 [some (.inr (.inr x0)), none] [.inr (.inr x0), .inr (.inr x0)] (by decide +kernel) rfl ?_
  refine s_gI fl_2_46 rfl (by decide +kernel) (fun v1 => ?_)
  refine s_run (b := [(.iconst 1, 1), (.iadd, 1)]) 49 [some (.inr (.inr x0)), none] [.inl (v1 + (1 : Int32)), .inr (.inr x0)] (by decide +kernel) rfl ?_
  refine s_pI fl_2_46 (Or.inl rfl) rfl (by decide +kernel) (fun M2 => ?_)
  exact s_vret (by decide +kernel) rfl
def f_X2_miss (M : Mem) (x0 : Nat) (x1 : Int32) : Option (Mem) :=
  (gR M 2 x0 3).bind fun v1 =>
  (gI M 5 v1 3).bind fun v2 =>
  (if v2 ≤ 0 then
    f_X2_miss_J42 M x0 
  else
    (gR M 2 x0 3).bind fun v4 =>
    (gI M 5 v4 3).bind fun v5 =>
    (gR M 2 x0 3).bind fun v6 =>
    (gR M 5 v6 12).bind fun v7 =>
    (aI M 0 v7 x1).bind fun v8 =>
    (if v8 < v5 then
      f_X2_miss_J42 M x0 
    else
      (gI M 2 x0 6).bind fun v10 =>
      (pI M 2 x0 6 (v10 + (1 : Int32))).bind fun M11 =>
      some M11))
set_option maxRecDepth 20000 in
theorem S_X2_miss {l : Launch} {G : Gv} {lim : Nat × Nat} (M : Mem) (x0 : Nat) (x1 : Int32) : Sim l G Y_X2_miss lim (f_X2_miss M x0 x1) (fun z => some (none, z)) 0 [some (.inr (.inr x0)), some (.inl x1)] [] M := by
  unfold f_X2_miss
  refine s_run (b := [(.aload_n 0, 1)]) 1 [some (.inr (.inr x0)), some (.inl x1)] [.inr (.inr x0)] (by decide +kernel) rfl ?_
  refine s_gR fl_2_12 rfl (by decide +kernel) (fun v1 => ?_)
  refine s_gI fl_2_168 rfl (by decide +kernel) (fun v2 => ?_)
  refine s_if_le (tgt := 42) (off := 35) (by decide +kernel) (by decide) (fun h3 => ?_) (fun h3 => ?_)
  · skip
    exact s_lsub (ls' := [some (.inr (.inr x0)), none]) ⟨rfl, trivial⟩ (J_X2_miss_42 M x0 )
  · skip
    refine s_run (b := [(.aload_n 0, 1)]) 11 [some (.inr (.inr x0)), some (.inl x1)] [.inr (.inr x0)] (by decide +kernel) rfl ?_
    refine s_gR fl_2_12 rfl (by decide +kernel) (fun v4 => ?_)
    refine s_gI fl_2_168 rfl (by decide +kernel) (fun v5 => ?_)
    refine s_run (b := [(.aload_n 0, 1)]) 18 [some (.inr (.inr x0)), some (.inl x1)] [.inr (.inr x0), .inl v5] (by decide +kernel) rfl ?_
    refine s_gR fl_2_12 rfl (by decide +kernel) (fun v6 => ?_)
    refine s_gR fl_2_171 rfl (by decide +kernel) (fun v7 => ?_)
    refine s_run (b := [(.iload_n 1, 1)]) 25 [some (.inr (.inr x0)), some (.inl x1)] [.inl x1, .inr (.inr v7), .inl v5] (by decide +kernel) rfl ?_
    refine s_ia (by decide +kernel) (fun v8 => ?_)
    refine s_ic_gt (tgt := 42) (off := 16) (by decide +kernel) (by decide) (fun h9 => ?_) (fun h9 => ?_)
    · skip
      exact s_lsub (ls' := [some (.inr (.inr x0)), none]) ⟨rfl, trivial⟩ (J_X2_miss_42 M x0 )
    · skip
      refine s_run (b := [(.aload_n 0, 1), (.dup, 1)]) 31 [some (.inr (.inr x0)), some (.inl x1)] [.inr (.inr x0), .inr (.inr x0)] (by decide +kernel) rfl ?_
      refine s_gI fl_2_49 rfl (by decide +kernel) (fun v10 => ?_)
      refine s_run (b := [(.iconst 1, 1), (.iadd, 1)]) 36 [some (.inr (.inr x0)), some (.inl x1)] [.inl (v10 + (1 : Int32)), .inr (.inr x0)] (by decide +kernel) rfl ?_
      refine s_pI fl_2_49 (Or.inl rfl) rfl (by decide +kernel) (fun M11 => ?_)
      refine s_run (b := [(.goto 13, 3)]) 52 [some (.inr (.inr x0)), some (.inl x1)] [] (by decide +kernel) rfl ?_
      exact s_vret (by decide +kernel) rfl
set_option maxRecDepth 20000 in
theorem c_X2_miss {l : Launch} {G : Gv} {M : Mem} {x0 : Nat} {x1 : Int32} {z : Mem} (h : f_X2_miss M x0 x1 = some z) : MetS l G Y_X2_miss [.inr (.inr x0), .inl x1] M none z :=
  met_of (ls0 := [some (.inr (.inr x0)), some (.inl x1)]) (by decide) rfl (lv_in (m := 0) rfl) (sl_le (Nat.le_of_ble_eq_true rfl)) (by rw [h]; rfl) (Or.inl ⟨rfl, rfl⟩) (S_X2_miss M x0 x1)
def f_X5_faded (M : Mem) (x0 : Nat) (x1 : Int32) (x2 : Int32) : Option (Int32) :=
  (gI M 5 x0 4).bind fun v1 =>
  some (imax (0 : Int32) (x1 - (v1 * (x2 - (1 : Int32)))))
set_option maxRecDepth 20000 in
theorem S_X5_faded {l : Launch} {G : Gv} {lim : Nat × Nat} (M : Mem) (x0 : Nat) (x1 : Int32) (x2 : Int32) : Sim l G Y_X5_faded lim (f_X5_faded M x0 x1 x2) (fun z => some (some (.int z), M)) 0 [some (.inr (.inr x0)), some (.inl x1), some (.inl x2)] [] M := by
  unfold f_X5_faded
  refine s_run (b := [(.iconst 0, 1), (.iload_n 1, 1), (.aload_n 0, 1)]) 3 [some (.inr (.inr x0)), some (.inl x1), some (.inl x2)] [.inr (.inr x0), .inl x1, .inl (0 : Int32)] (by decide +kernel) rfl ?_
  refine s_gI fl_5_58 rfl (by decide +kernel) (fun v1 => ?_)
  refine s_run (b := [(.iload_n 2, 1), (.iconst 1, 1), (.isub, 1), (.imul, 1), (.isub, 1)]) 11 [some (.inr (.inr x0)), some (.inl x1), some (.inl x2)] [.inl (x1 - (v1 * (x2 - (1 : Int32)))), .inl (0 : Int32)] (by decide +kernel) rfl ?_
  refine s_imax q817 ⟨Nat.le_of_ble_eq_true rfl, Nat.le_of_ble_eq_true rfl⟩ (by decide +kernel) ?_
  change Sim l G Y_X5_faded lim _ _ 14 [some (.inr (.inr x0)), some (.inl x1), some (.inl x2)] [.inl (imax (0 : Int32) (x1 - (v1 * (x2 - (1 : Int32)))))] M
  exact s_iret (by decide +kernel) rfl
set_option maxRecDepth 20000 in
theorem c_X5_faded {l : Launch} {G : Gv} {M : Mem} {x0 : Nat} {x1 : Int32} {x2 : Int32} {z : Int32} (h : f_X5_faded M x0 x1 x2 = some z) : MetS l G Y_X5_faded [.inr (.inr x0), .inl x1, .inl x2] M (some (.int z)) M :=
  met_of (ls0 := [some (.inr (.inr x0)), some (.inl x1), some (.inl x2)]) (by decide) rfl (lv_in (m := 0) rfl) (sl_le (Nat.le_of_ble_eq_true rfl)) (by rw [h]; rfl) (Or.inl ⟨rfl, rfl⟩) (S_X5_faded M x0 x1 x2)
def f_X5_inTime (M : Mem) (x0 : Nat) (x1 : Int32) (x2 : Int32) : Option (Int32) :=
  (if x2 ≤ 0 then
    some (0 : Int32)
  else
    (gR M 5 x0 12).bind fun v2 =>
    (aI M 0 v2 x1).bind fun v3 =>
    (if v3 < x2 then
      some (0 : Int32)
    else
      (gI M 5 x0 3).bind fun v5 =>
      (if v5 = 0 then
        some (1 : Int32)
      else
        (gI M 5 x0 3).bind fun v7 =>
        (if v7 < x2 then
          some (0 : Int32)
        else
          some (1 : Int32)))))
set_option maxRecDepth 20000 in
theorem S_X5_inTime {l : Launch} {G : Gv} {lim : Nat × Nat} (M : Mem) (x0 : Nat) (x1 : Int32) (x2 : Int32) : Sim l G Y_X5_inTime lim (f_X5_inTime M x0 x1 x2) (fun z => some (some (.int z), M)) 0 [some (.inr (.inr x0)), some (.inl x1), some (.inl x2)] [] M := by
  unfold f_X5_inTime
  refine s_run (b := [(.iload_n 2, 1)]) 1 [some (.inr (.inr x0)), some (.inl x1), some (.inl x2)] [.inl x2] (by decide +kernel) rfl ?_
  refine s_if_le (tgt := 33) (off := 32) (by decide +kernel) (by decide) (fun h1 => ?_) (fun h1 => ?_)
  · skip
    refine s_run (b := [(.iconst 0, 1)]) 34 [some (.inr (.inr x0)), some (.inl x1), some (.inl x2)] [.inl (0 : Int32)] (by decide +kernel) rfl ?_
    exact s_bret (Or.inl rfl) (by decide +kernel) rfl
  · skip
    refine s_run (b := [(.iload_n 2, 1), (.aload_n 0, 1)]) 6 [some (.inr (.inr x0)), some (.inl x1), some (.inl x2)] [.inr (.inr x0), .inl x2] (by decide +kernel) rfl ?_
    refine s_gR fl_5_33 rfl (by decide +kernel) (fun v2 => ?_)
    refine s_run (b := [(.iload_n 1, 1)]) 10 [some (.inr (.inr x0)), some (.inl x1), some (.inl x2)] [.inl x1, .inr (.inr v2), .inl x2] (by decide +kernel) rfl ?_
    refine s_ia (by decide +kernel) (fun v3 => ?_)
    refine s_ic_gt (tgt := 33) (off := 22) (by decide +kernel) (by decide) (fun h4 => ?_) (fun h4 => ?_)
    · skip
      refine s_run (b := [(.iconst 0, 1)]) 34 [some (.inr (.inr x0)), some (.inl x1), some (.inl x2)] [.inl (0 : Int32)] (by decide +kernel) rfl ?_
      exact s_bret (Or.inl rfl) (by decide +kernel) rfl
    · skip
      refine s_run (b := [(.aload_n 0, 1)]) 15 [some (.inr (.inr x0)), some (.inl x1), some (.inl x2)] [.inr (.inr x0)] (by decide +kernel) rfl ?_
      refine s_gI fl_5_55 rfl (by decide +kernel) (fun v5 => ?_)
      refine s_if_eq (tgt := 29) (off := 11) (by decide +kernel) (by decide) (fun h6 => ?_) (fun h6 => ?_)
      · skip
        refine s_run (b := [(.iconst 1, 1), (.goto 4, 3)]) 34 [some (.inr (.inr x0)), some (.inl x1), some (.inl x2)] [.inl (1 : Int32)] (by decide +kernel) rfl ?_
        exact s_bret (Or.inr rfl) (by decide +kernel) rfl
      · skip
        refine s_run (b := [(.iload_n 2, 1), (.aload_n 0, 1)]) 23 [some (.inr (.inr x0)), some (.inl x1), some (.inl x2)] [.inr (.inr x0), .inl x2] (by decide +kernel) rfl ?_
        refine s_gI fl_5_55 rfl (by decide +kernel) (fun v7 => ?_)
        refine s_ic_gt (tgt := 33) (off := 7) (by decide +kernel) (by decide) (fun h8 => ?_) (fun h8 => ?_)
        · skip
          refine s_run (b := [(.iconst 0, 1)]) 34 [some (.inr (.inr x0)), some (.inl x1), some (.inl x2)] [.inl (0 : Int32)] (by decide +kernel) rfl ?_
          exact s_bret (Or.inl rfl) (by decide +kernel) rfl
        · skip
          refine s_run (b := [(.iconst 1, 1), (.goto 4, 3)]) 34 [some (.inr (.inr x0)), some (.inl x1), some (.inl x2)] [.inl (1 : Int32)] (by decide +kernel) rfl ?_
          exact s_bret (Or.inr rfl) (by decide +kernel) rfl
set_option maxRecDepth 20000 in
theorem c_X5_inTime {l : Launch} {G : Gv} {M : Mem} {x0 : Nat} {x1 : Int32} {x2 : Int32} {z : Int32} (h : f_X5_inTime M x0 x1 x2 = some z) : MetS l G Y_X5_inTime [.inr (.inr x0), .inl x1, .inl x2] M (some (.int z)) M :=
  met_of (ls0 := [some (.inr (.inr x0)), some (.inl x1), some (.inl x2)]) (by decide) rfl (lv_in (m := 0) rfl) (sl_le (Nat.le_of_ble_eq_true rfl)) (by rw [h]; rfl) (Or.inl ⟨rfl, rfl⟩) (S_X5_inTime M x0 x1 x2)
def f_X2_settle_J92 (M : Mem) (x0 : Nat) (x1 : Int32)  : Option (Mem) :=
  (gR M 2 x0 3).bind fun v1 =>
  (gR M 5 v1 10).bind fun v2 =>
  (aI M 0 v2 x1).bind fun v3 =>
  (gR M 2 x0 12).bind fun v4 =>
  (gI M 3 v4 0).bind fun v5 =>
  (if v5 = v3 then
    some M
  else
    (gR M 2 x0 9).bind fun v7 =>
    (gR M 2 x0 12).bind fun v8 =>
    (gI M 3 v8 0).bind fun v9 =>
    (aI M 0 v7 v9).bind fun v10 =>
    (sI M 0 v7 v9 (v10 + (1 : Int32))).bind fun M11 =>
    (gI M11 2 x0 2).bind fun v12 =>
    (gR M11 2 x0 3).bind fun v13 =>
    (gR M11 5 v13 8).bind fun v14 =>
    (gR M11 2 x0 12).bind fun v15 =>
    (gI M11 3 v15 0).bind fun v16 =>
    (aI M11 0 v14 v16).bind fun v17 =>
    (pI M11 2 x0 2 (v12 + v17)).bind fun M18 =>
    (gR M18 2 x0 10).bind fun v19 =>
    (aI M18 0 v19 v3).bind fun v20 =>
    (sI M18 0 v19 v3 (v20 + (1 : Int32))).bind fun M21 =>
    some M21)
set_option maxRecDepth 20000 in
theorem J_X2_settle_92 {l : Launch} {G : Gv} {lim : Nat × Nat} (M : Mem) (x0 : Nat) (x1 : Int32)   : Sim l G Y_X2_settle lim (f_X2_settle_J92 M x0 x1) (fun z => some (none, z)) 92 [some (.inr (.inr x0)), some (.inl x1), none] [] M := by
  unfold f_X2_settle_J92
  refine s_run (b := [(.aload_n 0, 1)]) 93 [some (.inr (.inr x0)), some (.inl x1), none] [.inr (.inr x0)] (by decide +kernel) rfl ?_
  refine s_gR fl_2_12 rfl (by decide +kernel) (fun v1 => ?_)
  refine s_gR fl_2_107 rfl (by decide +kernel) (fun v2 => ?_)
  refine s_run (b := [(.iload_n 1, 1)]) 100 [some (.inr (.inr x0)), some (.inl x1), none] [.inl x1, .inr (.inr v2)] (by decide +kernel) rfl ?_
  refine s_ia (by decide +kernel) (fun v3 => ?_)
  refine s_run (b := [(.istore_n 2, 1), (.aload_n 0, 1)]) 103 [some (.inr (.inr x0)), some (.inl x1), some (.inl v3)] [.inr (.inr x0)] (by decide +kernel) rfl ?_
  refine s_gR fl_2_31 rfl (by decide +kernel) (fun v4 => ?_)
  refine s_gI fl_2_104 rfl (by decide +kernel) (fun v5 => ?_)
  refine s_run (b := [(.iload_n 2, 1)]) 110 [some (.inr (.inr x0)), some (.inl x1), some (.inl v3)] [.inl v3, .inl v5] (by decide +kernel) rfl ?_
  refine s_ic_eq (tgt := 163) (off := 53) (by decide +kernel) (by decide) (fun h6 => ?_) (fun h6 => ?_)
  · skip
    exact s_vret (by decide +kernel) rfl
  · skip
    refine s_run (b := [(.aload_n 0, 1)]) 114 [some (.inr (.inr x0)), some (.inl x1), some (.inl v3)] [.inr (.inr x0)] (by decide +kernel) rfl ?_
    refine s_gR fl_2_18 rfl (by decide +kernel) (fun v7 => ?_)
    refine s_run (b := [(.aload_n 0, 1)]) 118 [some (.inr (.inr x0)), some (.inl x1), some (.inl v3)] [.inr (.inr x0), .inr (.inr v7)] (by decide +kernel) rfl ?_
    refine s_gR fl_2_31 rfl (by decide +kernel) (fun v8 => ?_)
    refine s_gI fl_2_104 rfl (by decide +kernel) (fun v9 => ?_)
    refine s_run (b := [(.dup2, 1)]) 125 [some (.inr (.inr x0)), some (.inl x1), some (.inl v3)] [.inl v9, .inr (.inr v7), .inl v9, .inr (.inr v7)] (by decide +kernel) rfl ?_
    refine s_ia (by decide +kernel) (fun v10 => ?_)
    refine s_run (b := [(.iconst 1, 1), (.iadd, 1)]) 128 [some (.inr (.inr x0)), some (.inl x1), some (.inl v3)] [.inl (v10 + (1 : Int32)), .inl v9, .inr (.inr v7)] (by decide +kernel) rfl ?_
    refine s_is (by decide +kernel) (fun M11 => ?_)
    refine s_run (b := [(.aload_n 0, 1), (.dup, 1)]) 131 [some (.inr (.inr x0)), some (.inl x1), some (.inl v3)] [.inr (.inr x0), .inr (.inr x0)] (by decide +kernel) rfl ?_
    refine s_gI fl_2_55 rfl (by decide +kernel) (fun v12 => ?_)
    refine s_run (b := [(.aload_n 0, 1)]) 135 [some (.inr (.inr x0)), some (.inl x1), some (.inl v3)] [.inr (.inr x0), .inl v12, .inr (.inr x0)] (by decide +kernel) rfl ?_
    refine s_gR fl_2_12 rfl (by decide +kernel) (fun v13 => ?_)
    refine s_gR fl_2_165 rfl (by decide +kernel) (fun v14 => ?_)
    refine s_run (b := [(.aload_n 0, 1)]) 142 [some (.inr (.inr x0)), some (.inl x1), some (.inl v3)] [.inr (.inr x0), .inr (.inr v14), .inl v12, .inr (.inr x0)] (by decide +kernel) rfl ?_
    refine s_gR fl_2_31 rfl (by decide +kernel) (fun v15 => ?_)
    refine s_gI fl_2_104 rfl (by decide +kernel) (fun v16 => ?_)
    refine s_ia (by decide +kernel) (fun v17 => ?_)
    refine s_run (b := [(.iadd, 1)]) 150 [some (.inr (.inr x0)), some (.inl x1), some (.inl v3)] [.inl (v12 + v17), .inr (.inr x0)] (by decide +kernel) rfl ?_
    refine s_pI fl_2_55 (Or.inl rfl) rfl (by decide +kernel) (fun M18 => ?_)
    refine s_run (b := [(.aload_n 0, 1)]) 154 [some (.inr (.inr x0)), some (.inl x1), some (.inl v3)] [.inr (.inr x0)] (by decide +kernel) rfl ?_
    refine s_gR fl_2_22 rfl (by decide +kernel) (fun v19 => ?_)
    refine s_run (b := [(.iload_n 2, 1), (.dup2, 1)]) 159 [some (.inr (.inr x0)), some (.inl x1), some (.inl v3)] [.inl v3, .inr (.inr v19), .inl v3, .inr (.inr v19)] (by decide +kernel) rfl ?_
    refine s_ia (by decide +kernel) (fun v20 => ?_)
    refine s_run (b := [(.iconst 1, 1), (.iadd, 1)]) 162 [some (.inr (.inr x0)), some (.inl x1), some (.inl v3)] [.inl (v20 + (1 : Int32)), .inl v3, .inr (.inr v19)] (by decide +kernel) rfl ?_
    refine s_is (by decide +kernel) (fun M21 => ?_)
    exact s_vret (by decide +kernel) rfl
def f_X2_settle (M : Mem) (x0 : Nat) (x1 : Int32) : Option (Mem) :=
  (gR M 2 x0 3).bind fun v1 =>
  (gR M 2 x0 12).bind fun v2 =>
  (gI M 3 v2 1).bind fun v3 =>
  (ob M 5 v1).bind fun _ => (f_X5_inTime M v1 x1 v3).bind fun v4 =>
  (if v4 = 0 then
    (ob M 2 x0).bind fun _ => (f_X2_miss M x0 x1).bind fun z6 =>
    some z6
  else
    (gI M 2 x0 0).bind fun v7 =>
    (pI M 2 x0 0 (v7 ||| ((1 : Int32) <<< (x1 &&& 31)))).bind fun M8 =>
    (gI M8 2 x0 1).bind fun v9 =>
    (gR M8 2 x0 3).bind fun v10 =>
    (gR M8 2 x0 3).bind fun v11 =>
    (gR M8 5 v11 11).bind fun v12 =>
    (aI M8 0 v12 x1).bind fun v13 =>
    (gR M8 2 x0 12).bind fun v14 =>
    (gI M8 3 v14 1).bind fun v15 =>
    (ob M8 5 v10).bind fun _ => (f_X5_faded M8 v10 v13 v15).bind fun v16 =>
    (pI M8 2 x0 1 (v9 + v16)).bind fun M17 =>
    (gR M17 2 x0 12).bind fun v18 =>
    (gI M17 3 v18 2).bind fun v19 =>
    (f_J6_bitCount_0f7a4 M17 v19).bind fun v20 =>
    (if v20 ≤ (1 : Int32) then
      f_X2_settle_J92 M17 x0 x1 
    else
      (gI M17 2 x0 7).bind fun v22 =>
      (pI M17 2 x0 7 (v22 + (1 : Int32))).bind fun M23 =>
      f_X2_settle_J92 M23 x0 x1 ))
set_option maxRecDepth 20000 in
theorem S_X2_settle {l : Launch} {G : Gv} {lim : Nat × Nat} (M : Mem) (x0 : Nat) (x1 : Int32) : Sim l G Y_X2_settle lim (f_X2_settle M x0 x1) (fun z => some (none, z)) 0 [some (.inr (.inr x0)), some (.inl x1), none] [] M := by
  unfold f_X2_settle
  refine s_run (b := [(.aload_n 0, 1)]) 1 [some (.inr (.inr x0)), some (.inl x1), none] [.inr (.inr x0)] (by decide +kernel) rfl ?_
  refine s_gR fl_2_12 rfl (by decide +kernel) (fun v1 => ?_)
  refine s_run (b := [(.iload_n 1, 1), (.aload_n 0, 1)]) 6 [some (.inr (.inr x0)), some (.inl x1), none] [.inr (.inr x0), .inl x1, .inr (.inr v1)] (by decide +kernel) rfl ?_
  refine s_gR fl_2_31 rfl (by decide +kernel) (fun v2 => ?_)
  refine s_gI fl_2_142 rfl (by decide +kernel) (fun v3 => ?_)
  refine s_cV (Z := Y_X5_inTime) (c := 5) (vs := [.inl x1, .inl v3]) (st := []) (rO := fun z => some (.inl z)) (mO := fun _ => M) zk_X5_inTime zi_X5_inTime q805 rfl ⟨by decide, by decide⟩ ⟨rfl, rfl⟩ rfl rfl (Nat.le_of_ble_eq_true rfl) (by decide +kernel) (fun z hz => c_X5_inTime hz) (fun v4 => ?_)
  change Sim l G Y_X2_settle lim _ _ 15 [some (.inr (.inr x0)), some (.inl x1), none] [.inl v4] M
  refine s_if_ne (tgt := 24) (off := 9) (by decide +kernel) (by decide) (fun h5 => ?_) (fun h5 => ?_)
  · skip
    refine s_run (b := [(.aload_n 0, 1), (.iload_n 1, 1)]) 20 [some (.inr (.inr x0)), some (.inl x1), none] [.inl x1, .inr (.inr x0)] (by decide +kernel) rfl ?_
    refine s_cV (Z := Y_X2_miss) (c := 2) (vs := [.inl x1]) (st := []) (rO := fun _ => none) (mO := fun z => z) zk_X2_miss zi_X2_miss q809 rfl ⟨by decide, by decide⟩ ⟨rfl, rfl⟩ rfl rfl (Nat.le_of_ble_eq_true rfl) (by decide +kernel) (fun z hz => c_X2_miss hz) (fun z6 => ?_)
    change Sim l G Y_X2_settle lim _ _ 23 [some (.inr (.inr x0)), some (.inl x1), none] [] z6
    exact s_vret (by decide +kernel) rfl
  · skip
    refine s_run (b := [(.aload_n 0, 1), (.dup, 1)]) 26 [some (.inr (.inr x0)), some (.inl x1), none] [.inr (.inr x0), .inr (.inr x0)] (by decide +kernel) rfl ?_
    refine s_gI fl_2_43 rfl (by decide +kernel) (fun v7 => ?_)
    refine s_run (b := [(.iconst 1, 1), (.iload_n 1, 1), (.ishl, 1), (.ior, 1)]) 33 [some (.inr (.inr x0)), some (.inl x1), none] [.inl (v7 ||| ((1 : Int32) <<< (x1 &&& 31))), .inr (.inr x0)] (by decide +kernel) rfl ?_
    refine s_pI fl_2_43 (Or.inl rfl) rfl (by decide +kernel) (fun M8 => ?_)
    refine s_run (b := [(.aload_n 0, 1), (.dup, 1)]) 38 [some (.inr (.inr x0)), some (.inl x1), none] [.inr (.inr x0), .inr (.inr x0)] (by decide +kernel) rfl ?_
    refine s_gI fl_2_52 rfl (by decide +kernel) (fun v9 => ?_)
    refine s_run (b := [(.aload_n 0, 1)]) 42 [some (.inr (.inr x0)), some (.inl x1), none] [.inr (.inr x0), .inl v9, .inr (.inr x0)] (by decide +kernel) rfl ?_
    refine s_gR fl_2_12 rfl (by decide +kernel) (fun v10 => ?_)
    refine s_run (b := [(.aload_n 0, 1)]) 46 [some (.inr (.inr x0)), some (.inl x1), none] [.inr (.inr x0), .inr (.inr v10), .inl v9, .inr (.inr x0)] (by decide +kernel) rfl ?_
    refine s_gR fl_2_12 rfl (by decide +kernel) (fun v11 => ?_)
    refine s_gR fl_2_151 rfl (by decide +kernel) (fun v12 => ?_)
    refine s_run (b := [(.iload_n 1, 1)]) 53 [some (.inr (.inr x0)), some (.inl x1), none] [.inl x1, .inr (.inr v12), .inr (.inr v10), .inl v9, .inr (.inr x0)] (by decide +kernel) rfl ?_
    refine s_ia (by decide +kernel) (fun v13 => ?_)
    refine s_run (b := [(.aload_n 0, 1)]) 55 [some (.inr (.inr x0)), some (.inl x1), none] [.inr (.inr x0), .inl v13, .inr (.inr v10), .inl v9, .inr (.inr x0)] (by decide +kernel) rfl ?_
    refine s_gR fl_2_31 rfl (by decide +kernel) (fun v14 => ?_)
    refine s_gI fl_2_142 rfl (by decide +kernel) (fun v15 => ?_)
    refine s_cV (Z := Y_X5_faded) (c := 5) (vs := [.inl v13, .inl v15]) (st := [.inl v9, .inr (.inr x0)]) (rO := fun z => some (.inl z)) (mO := fun _ => M8) zk_X5_faded zi_X5_faded q813 rfl ⟨by decide, by decide⟩ ⟨rfl, rfl⟩ rfl rfl (Nat.le_of_ble_eq_true rfl) (by decide +kernel) (fun z hz => c_X5_faded hz) (fun v16 => ?_)
    change Sim l G Y_X2_settle lim _ _ 64 [some (.inr (.inr x0)), some (.inl x1), none] [.inl v16, .inl v9, .inr (.inr x0)] M8
    refine s_run (b := [(.iadd, 1)]) 65 [some (.inr (.inr x0)), some (.inl x1), none] [.inl (v9 + v16), .inr (.inr x0)] (by decide +kernel) rfl ?_
    refine s_pI fl_2_52 (Or.inl rfl) rfl (by decide +kernel) (fun M17 => ?_)
    refine s_run (b := [(.aload_n 0, 1)]) 69 [some (.inr (.inr x0)), some (.inl x1), none] [.inr (.inr x0)] (by decide +kernel) rfl ?_
    refine s_gR fl_2_31 rfl (by decide +kernel) (fun v18 => ?_)
    refine s_gI fl_2_157 rfl (by decide +kernel) (fun v19 => ?_)
    refine s_cS (Z := Y_J6_bitCount_0f7a4) (vs := [.inl v19]) (st := []) (rO := fun z => some (.inl z)) (mO := fun _ => M17) zk_J6_bitCount_0f7a4 q819 q818 ⟨by decide, by decide⟩ ⟨rfl, rfl⟩ rfl rfl (Nat.le_of_ble_eq_true rfl) (by decide +kernel) (fun z hz => c_J6_bitCount_0f7a4 hz) (fun v20 => ?_)
    change Sim l G Y_X2_settle lim _ _ 78 [some (.inr (.inr x0)), some (.inl x1), none] [.inl v20] M17
    refine s_run (b := [(.iconst 1, 1)]) 79 [some (.inr (.inr x0)), some (.inl x1), none] [.inl (1 : Int32), .inl v20] (by decide +kernel) rfl ?_
    refine s_ic_le (tgt := 92) (off := 13) (by decide +kernel) (by decide) (fun h21 => ?_) (fun h21 => ?_)
    · skip
      exact s_lsub (ls' := [some (.inr (.inr x0)), some (.inl x1), none]) ⟨rfl, ⟨rfl, trivial⟩⟩ (J_X2_settle_92 M17 x0 x1 )
    · skip
      refine s_run (b := [(.aload_n 0, 1), (.dup, 1)]) 84 [some (.inr (.inr x0)), some (.inl x1), none] [.inr (.inr x0), .inr (.inr x0)] (by decide +kernel) rfl ?_
      refine s_gI fl_2_58 rfl (by decide +kernel) (fun v22 => ?_)
      refine s_run (b := [(.iconst 1, 1), (.iadd, 1)]) 89 [some (.inr (.inr x0)), some (.inl x1), none] [.inl (v22 + (1 : Int32)), .inr (.inr x0)] (by decide +kernel) rfl ?_
      refine s_pI fl_2_58 (Or.inl rfl) rfl (by decide +kernel) (fun M23 => ?_)
      exact s_lsub (ls' := [some (.inr (.inr x0)), some (.inl x1), none]) ⟨rfl, ⟨rfl, trivial⟩⟩ (J_X2_settle_92 M23 x0 x1 )
set_option maxRecDepth 20000 in
theorem c_X2_settle {l : Launch} {G : Gv} {M : Mem} {x0 : Nat} {x1 : Int32} {z : Mem} (h : f_X2_settle M x0 x1 = some z) : MetS l G Y_X2_settle [.inr (.inr x0), .inl x1] M none z :=
  met_of (ls0 := [some (.inr (.inr x0)), some (.inl x1), none]) (by decide) rfl (lv_in (m := 1) rfl) (sl_le (Nat.le_of_ble_eq_true rfl)) (by rw [h]; rfl) (Or.inl ⟨rfl, rfl⟩) (S_X2_settle M x0 x1)
def f_X3_clear (M : Mem) (x0 : Nat) : Option (Mem) :=
  (pI M 3 x0 0 (-1 : Int32)).bind fun M1 =>
  (pI M1 3 x0 1 (0 : Int32)).bind fun M2 =>
  (pI M2 3 x0 2 (0 : Int32)).bind fun M3 =>
  some M3
set_option maxRecDepth 20000 in
theorem S_X3_clear {l : Launch} {G : Gv} {lim : Nat × Nat} (M : Mem) (x0 : Nat) : Sim l G Y_X3_clear lim (f_X3_clear M x0) (fun z => some (none, z)) 0 [some (.inr (.inr x0))] [] M := by
  unfold f_X3_clear
  refine s_run (b := [(.aload_n 0, 1), (.iconst (-1), 1)]) 2 [some (.inr (.inr x0))] [.inl (-1 : Int32), .inr (.inr x0)] (by decide +kernel) rfl ?_
  refine s_pI fl_3_9 (Or.inl rfl) rfl (by decide +kernel) (fun M1 => ?_)
  refine s_run (b := [(.aload_n 0, 1), (.iconst 0, 1)]) 7 [some (.inr (.inr x0))] [.inl (0 : Int32), .inr (.inr x0)] (by decide +kernel) rfl ?_
  refine s_pI fl_3_15 (Or.inl rfl) rfl (by decide +kernel) (fun M2 => ?_)
  refine s_run (b := [(.aload_n 0, 1), (.iconst 0, 1)]) 12 [some (.inr (.inr x0))] [.inl (0 : Int32), .inr (.inr x0)] (by decide +kernel) rfl ?_
  refine s_pI fl_3_18 (Or.inl rfl) rfl (by decide +kernel) (fun M3 => ?_)
  exact s_vret (by decide +kernel) rfl
set_option maxRecDepth 20000 in
theorem c_X3_clear {l : Launch} {G : Gv} {M : Mem} {x0 : Nat} {z : Mem} (h : f_X3_clear M x0 = some z) : MetS l G Y_X3_clear [.inr (.inr x0)] M none z :=
  met_of (ls0 := [some (.inr (.inr x0))]) (by decide) rfl (lv_in (m := 0) rfl) (sl_le (Nat.le_of_ble_eq_true rfl)) (by rw [h]; rfl) (Or.inl ⟨rfl, rfl⟩) (S_X3_clear M x0)
def f_X5_gap (M : Mem) (x0 : Nat) (x1 : Int32) (x2 : Int32) : Option (Int32) :=
  (gR M 5 x0 14).bind fun v1 =>
  (aI M 0 v1 ((x2 * (8 : Int32)) + x1)).bind fun v2 =>
  some v2
set_option maxRecDepth 20000 in
theorem S_X5_gap {l : Launch} {G : Gv} {lim : Nat × Nat} (M : Mem) (x0 : Nat) (x1 : Int32) (x2 : Int32) : Sim l G Y_X5_gap lim (f_X5_gap M x0 x1 x2) (fun z => some (some (.int z), M)) 0 [some (.inr (.inr x0)), some (.inl x1), some (.inl x2)] [] M := by
  unfold f_X5_gap
  refine s_run (b := [(.aload_n 0, 1)]) 1 [some (.inr (.inr x0)), some (.inl x1), some (.inl x2)] [.inr (.inr x0)] (by decide +kernel) rfl ?_
  refine s_gR fl_5_39 rfl (by decide +kernel) (fun v1 => ?_)
  refine s_run (b := [(.iload_n 2, 1), (.bipush 8, 2), (.imul, 1), (.iload_n 1, 1), (.iadd, 1)]) 10 [some (.inr (.inr x0)), some (.inl x1), some (.inl x2)] [.inl ((x2 * (8 : Int32)) + x1), .inr (.inr v1)] (by decide +kernel) rfl ?_
  refine s_ia (by decide +kernel) (fun v2 => ?_)
  exact s_iret (by decide +kernel) rfl
set_option maxRecDepth 20000 in
theorem c_X5_gap {l : Launch} {G : Gv} {M : Mem} {x0 : Nat} {x1 : Int32} {x2 : Int32} {z : Int32} (h : f_X5_gap M x0 x1 x2 = some z) : MetS l G Y_X5_gap [.inr (.inr x0), .inl x1, .inl x2] M (some (.int z)) M :=
  met_of (ls0 := [some (.inr (.inr x0)), some (.inl x1), some (.inl x2)]) (by decide) rfl (lv_in (m := 0) rfl) (sl_le (Nat.le_of_ble_eq_true rfl)) (by rw [h]; rfl) (Or.inl ⟨rfl, rfl⟩) (S_X5_gap M x0 x1 x2)
def f_X3_offer_J23 (M : Mem) (x0 : Nat) (x2 : Int32) (x4 : Int32)  : Option (Mem) :=
  (pI M 3 x0 0 x2).bind fun M1 =>
  (pI M1 3 x0 1 x4).bind fun M2 =>
  (pI M2 3 x0 2 ((1 : Int32) <<< (x2 &&& 31))).bind fun M3 =>
  some M3
set_option maxRecDepth 20000 in
theorem J_X3_offer_23 {l : Launch} {G : Gv} {lim : Nat × Nat} (M : Mem) (x0 : Nat) (x2 : Int32) (x4 : Int32)   : Sim l G Y_X3_offer lim (f_X3_offer_J23 M x0 x2 x4) (fun z => some (none, z)) 23 [some (.inr (.inr x0)), none, some (.inl x2), none, some (.inl x4)] [] M := by
  unfold f_X3_offer_J23
  refine s_run (b := [(.aload_n 0, 1), (.iload_n 2, 1)]) 25 [some (.inr (.inr x0)), none, some (.inl x2), none, some (.inl x4)] [.inl x2, .inr (.inr x0)] (by decide +kernel) rfl ?_
  refine s_pI fl_3_9 (Or.inl rfl) rfl (by decide +kernel) (fun M1 => ?_)
  refine s_run (b := [(.aload_n 0, 1), (.iload 4, 2)]) 31 [some (.inr (.inr x0)), none, some (.inl x2), none, some (.inl x4)] [.inl x4, .inr (.inr x0)] (by decide +kernel) rfl ?_
  refine s_pI fl_3_15 (Or.inl rfl) rfl (by decide +kernel) (fun M2 => ?_)
  refine s_run (b := [(.aload_n 0, 1), (.iconst 1, 1), (.iload_n 2, 1), (.ishl, 1)]) 38 [some (.inr (.inr x0)), none, some (.inl x2), none, some (.inl x4)] [.inl ((1 : Int32) <<< (x2 &&& 31)), .inr (.inr x0)] (by decide +kernel) rfl ?_
  refine s_pI fl_3_18 (Or.inl rfl) rfl (by decide +kernel) (fun M3 => ?_)
  refine s_run (b := [(.goto 47, 3)]) 88 [some (.inr (.inr x0)), none, some (.inl x2), none, some (.inl x4)] [] (by decide +kernel) rfl ?_
  exact s_vret (by decide +kernel) rfl
def f_X3_offer (M : Mem) (x0 : Nat) (x1 : Nat) (x2 : Int32) (x3 : Int32) (x4 : Int32) : Option (Mem) :=
  (if x4 = 0 then
    some M
  else
    (gI M 3 x0 0).bind fun v2 =>
    (if v2 = (-1 : Int32) then
      f_X3_offer_J23 M x0 x2 x4 
    else
      (gI M 3 x0 1).bind fun v4 =>
      (if v4 ≤ x4 then
        (gI M 3 x0 1).bind fun v6 =>
        (if x4 = v6 then
          (gI M 3 x0 2).bind fun v8 =>
          (pI M 3 x0 2 (v8 ||| ((1 : Int32) <<< (x2 &&& 31)))).bind fun M9 =>
          (ob M9 5 x1).bind fun _ => (f_X5_gap M9 x1 x2 x3).bind fun v10 =>
          (gI M9 3 x0 0).bind fun v11 =>
          (ob M9 5 x1).bind fun _ => (f_X5_gap M9 x1 v11 x3).bind fun v12 =>
          (if v12 ≤ v10 then
            some M9
          else
            (pI M9 3 x0 0 x2).bind fun M14 =>
            some M14)
        else
          some M)
      else
        f_X3_offer_J23 M x0 x2 x4 )))
set_option maxRecDepth 20000 in
theorem S_X3_offer {l : Launch} {G : Gv} {lim : Nat × Nat} (M : Mem) (x0 : Nat) (x1 : Nat) (x2 : Int32) (x3 : Int32) (x4 : Int32) : Sim l G Y_X3_offer lim (f_X3_offer M x0 x1 x2 x3 x4) (fun z => some (none, z)) 0 [some (.inr (.inr x0)), some (.inr (.inr x1)), some (.inl x2), some (.inl x3), some (.inl x4)] [] M := by
  unfold f_X3_offer
  refine s_run (b := [(.iload 4, 2)]) 2 [some (.inr (.inr x0)), some (.inr (.inr x1)), some (.inl x2), some (.inl x3), some (.inl x4)] [.inl x4] (by decide +kernel) rfl ?_
  refine s_if_ne (tgt := 6) (off := 4) (by decide +kernel) (by decide) (fun h1 => ?_) (fun h1 => ?_)
  · skip
    exact s_vret (by decide +kernel) rfl
  · skip
    refine s_run (b := [(.aload_n 0, 1)]) 7 [some (.inr (.inr x0)), some (.inr (.inr x1)), some (.inl x2), some (.inl x3), some (.inl x4)] [.inr (.inr x0)] (by decide +kernel) rfl ?_
    refine s_gI fl_3_9 rfl (by decide +kernel) (fun v2 => ?_)
    refine s_run (b := [(.iconst (-1), 1)]) 11 [some (.inr (.inr x0)), some (.inr (.inr x1)), some (.inl x2), some (.inl x3), some (.inl x4)] [.inl (-1 : Int32), .inl v2] (by decide +kernel) rfl ?_
    refine s_ic_eq (tgt := 23) (off := 12) (by decide +kernel) (by decide) (fun h3 => ?_) (fun h3 => ?_)
    · skip
      exact s_lsub (ls' := [some (.inr (.inr x0)), none, some (.inl x2), none, some (.inl x4)]) ⟨rfl, ⟨rfl, ⟨rfl, trivial⟩⟩⟩ (J_X3_offer_23 M x0 x2 x4 )
    · skip
      refine s_run (b := [(.iload 4, 2), (.aload_n 0, 1)]) 17 [some (.inr (.inr x0)), some (.inr (.inr x1)), some (.inl x2), some (.inl x3), some (.inl x4)] [.inr (.inr x0), .inl x4] (by decide +kernel) rfl ?_
      refine s_gI fl_3_15 rfl (by decide +kernel) (fun v4 => ?_)
      refine s_ic_ge (tgt := 44) (off := 24) (by decide +kernel) (by decide) (fun h5 => ?_) (fun h5 => ?_)
      · skip
        refine s_run (b := [(.iload 4, 2), (.aload_n 0, 1)]) 47 [some (.inr (.inr x0)), some (.inr (.inr x1)), some (.inl x2), some (.inl x3), some (.inl x4)] [.inr (.inr x0), .inl x4] (by decide +kernel) rfl ?_
        refine s_gI fl_3_15 rfl (by decide +kernel) (fun v6 => ?_)
        refine s_ic_ne (tgt := 88) (off := 38) (by decide +kernel) (by decide) (fun h7 => ?_) (fun h7 => ?_)
        · skip
          refine s_run (b := [(.aload_n 0, 1), (.dup, 1)]) 55 [some (.inr (.inr x0)), some (.inr (.inr x1)), some (.inl x2), some (.inl x3), some (.inl x4)] [.inr (.inr x0), .inr (.inr x0)] (by decide +kernel) rfl ?_
          refine s_gI fl_3_18 rfl (by decide +kernel) (fun v8 => ?_)
          refine s_run (b := [(.iconst 1, 1), (.iload_n 2, 1), (.ishl, 1), (.ior, 1)]) 62 [some (.inr (.inr x0)), some (.inr (.inr x1)), some (.inl x2), some (.inl x3), some (.inl x4)] [.inl (v8 ||| ((1 : Int32) <<< (x2 &&& 31))), .inr (.inr x0)] (by decide +kernel) rfl ?_
          refine s_pI fl_3_18 (Or.inl rfl) rfl (by decide +kernel) (fun M9 => ?_)
          refine s_run (b := [(.aload_n 1, 1), (.iload_n 2, 1), (.iload_n 3, 1)]) 68 [some (.inr (.inr x0)), some (.inr (.inr x1)), some (.inl x2), some (.inl x3), some (.inl x4)] [.inl x3, .inl x2, .inr (.inr x1)] (by decide +kernel) rfl ?_
          refine s_cV (Z := Y_X5_gap) (c := 5) (vs := [.inl x2, .inl x3]) (st := []) (rO := fun z => some (.inl z)) (mO := fun _ => M9) zk_X5_gap zi_X5_gap q790 rfl ⟨by decide, by decide⟩ ⟨rfl, rfl⟩ rfl rfl (Nat.le_of_ble_eq_true rfl) (by decide +kernel) (fun z hz => c_X5_gap hz) (fun v10 => ?_)
          change Sim l G Y_X3_offer lim _ _ 71 [some (.inr (.inr x0)), some (.inr (.inr x1)), some (.inl x2), some (.inl x3), some (.inl x4)] [.inl v10] M9
          refine s_run (b := [(.aload_n 1, 1), (.aload_n 0, 1)]) 73 [some (.inr (.inr x0)), some (.inr (.inr x1)), some (.inl x2), some (.inl x3), some (.inl x4)] [.inr (.inr x0), .inr (.inr x1), .inl v10] (by decide +kernel) rfl ?_
          refine s_gI fl_3_9 rfl (by decide +kernel) (fun v11 => ?_)
          refine s_run (b := [(.iload_n 3, 1)]) 77 [some (.inr (.inr x0)), some (.inr (.inr x1)), some (.inl x2), some (.inl x3), some (.inl x4)] [.inl x3, .inl v11, .inr (.inr x1), .inl v10] (by decide +kernel) rfl ?_
          refine s_cV (Z := Y_X5_gap) (c := 5) (vs := [.inl v11, .inl x3]) (st := [.inl v10]) (rO := fun z => some (.inl z)) (mO := fun _ => M9) zk_X5_gap zi_X5_gap q790 rfl ⟨by decide, by decide⟩ ⟨rfl, rfl⟩ rfl rfl (Nat.le_of_ble_eq_true rfl) (by decide +kernel) (fun z hz => c_X5_gap hz) (fun v12 => ?_)
          change Sim l G Y_X3_offer lim _ _ 80 [some (.inr (.inr x0)), some (.inr (.inr x1)), some (.inl x2), some (.inl x3), some (.inl x4)] [.inl v12, .inl v10] M9
          refine s_ic_ge (tgt := 88) (off := 8) (by decide +kernel) (by decide) (fun h13 => ?_) (fun h13 => ?_)
          · skip
            exact s_vret (by decide +kernel) rfl
          · skip
            refine s_run (b := [(.aload_n 0, 1), (.iload_n 2, 1)]) 85 [some (.inr (.inr x0)), some (.inr (.inr x1)), some (.inl x2), some (.inl x3), some (.inl x4)] [.inl x2, .inr (.inr x0)] (by decide +kernel) rfl ?_
            refine s_pI fl_3_9 (Or.inl rfl) rfl (by decide +kernel) (fun M14 => ?_)
            exact s_vret (by decide +kernel) rfl
        · skip
          exact s_vret (by decide +kernel) rfl
      · skip
        exact s_lsub (ls' := [some (.inr (.inr x0)), none, some (.inl x2), none, some (.inl x4)]) ⟨rfl, ⟨rfl, ⟨rfl, trivial⟩⟩⟩ (J_X3_offer_23 M x0 x2 x4 )
set_option maxRecDepth 20000 in
theorem c_X3_offer {l : Launch} {G : Gv} {M : Mem} {x0 : Nat} {x1 : Nat} {x2 : Int32} {x3 : Int32} {x4 : Int32} {z : Mem} (h : f_X3_offer M x0 x1 x2 x3 x4 = some z) : MetS l G Y_X3_offer [.inr (.inr x0), .inr (.inr x1), .inl x2, .inl x3, .inl x4] M none z :=
  met_of (ls0 := [some (.inr (.inr x0)), some (.inr (.inr x1)), some (.inl x2), some (.inl x3), some (.inl x4)]) (by decide) rfl (lv_in (m := 0) rfl) (sl_le (Nat.le_of_ble_eq_true rfl)) (by rw [h]; rfl) (Or.inl ⟨rfl, rfl⟩) (S_X3_offer M x0 x1 x2 x3 x4)
def f_X5_nearestGap_B6 (M : Mem) (x0 : Nat) (x1 : Int32) (x2 : Int32) (x3 : Int32) (x4 : Int32) : Option ((Int32 × Int32) ⊕ ((Int32))) :=
  (gI M 5 x0 0).bind fun v1 =>
  (if v1 ≤ x4 then
    some (.inr x3)
  else
    (gR M 5 x0 14).bind fun v3 =>
    (aI M 0 v3 ((x1 * (8 : Int32)) + x4)).bind fun v4 =>
    (if ((x2 >>> (x4 &&& 31)) &&& (1 : Int32)) = 0 then
      some (.inl (x3, (x4 + (1 : Int32))))
    else
      (if x3 ≤ v4 then
        some (.inl (x3, (x4 + (1 : Int32))))
      else
        some (.inl (v4, (x4 + (1 : Int32)))))))
def f_X5_nearestGap_L6 (M : Mem) (x0 : Nat) (x1 : Int32) (x2 : Int32) (x3 : Int32) (x4 : Int32) : Option ((Int32)) := iter (fun s : Int32 × Int32 => f_X5_nearestGap_B6 M x0 x1 x2 s.1 s.2) 1048576 (x3, x4)
set_option maxRecDepth 20000 in
theorem B_X5_nearestGap_6 {l : Launch} {G : Gv} {lim : Nat × Nat} (M : Mem) (x0 : Nat) (x1 : Int32) (x2 : Int32) (x3 : Int32) (x4 : Int32) (K : (Int32 × Int32) ⊕ ((Int32)) → Option (Option Value × Mem)) (kk1 : ∀ (s3 : Int32) (s4 : Int32), SimR l G Y_X5_nearestGap lim (K (.inl (s3, s4))) 6 [some (.inr (.inr x0)), some (.inl x1), some (.inl x2), some (.inl s3), some (.inl s4), none] [] M) (kk2_0 : ∀ (s3 : Int32), SimR l G Y_X5_nearestGap lim (K (.inr s3)) 53 [none, none, none, some (.inl s3), none, none] [] M) : Sim l G Y_X5_nearestGap lim (f_X5_nearestGap_B6 M x0 x1 x2 x3 x4) K 6 [some (.inr (.inr x0)), some (.inl x1), some (.inl x2), some (.inl x3), some (.inl x4), none] [] M := by
  unfold f_X5_nearestGap_B6
  refine s_run (b := [(.iload 4, 2), (.aload_n 0, 1)]) 9 [some (.inr (.inr x0)), some (.inl x1), some (.inl x2), some (.inl x3), some (.inl x4), none] [.inr (.inr x0), .inl x4] (by decide +kernel) rfl ?_
  refine s_gI fl_5_45 rfl (by decide +kernel) (fun v1 => ?_)
  refine s_ic_ge (tgt := 53) (off := 41) (by decide +kernel) (by decide) (fun h2 => ?_) (fun h2 => ?_)
  · skip
    exact s_lsub (ls' := [none, none, none, some (.inl x3), none, none]) ⟨rfl, trivial⟩ (kk2_0 x3)
  · skip
    refine s_run (b := [(.aload_n 0, 1)]) 16 [some (.inr (.inr x0)), some (.inl x1), some (.inl x2), some (.inl x3), some (.inl x4), none] [.inr (.inr x0)] (by decide +kernel) rfl ?_
    refine s_gR fl_5_39 rfl (by decide +kernel) (fun v3 => ?_)
    refine s_run (b := [(.iload_n 1, 1), (.bipush 8, 2), (.imul, 1), (.iload 4, 2), (.iadd, 1)]) 26 [some (.inr (.inr x0)), some (.inl x1), some (.inl x2), some (.inl x3), some (.inl x4), none] [.inl ((x1 * (8 : Int32)) + x4), .inr (.inr v3)] (by decide +kernel) rfl ?_
    refine s_ia (by decide +kernel) (fun v4 => ?_)
    refine s_run (b := [(.istore 5, 2), (.iload_n 2, 1), (.iload 4, 2), (.ishr, 1), (.iconst 1, 1), (.iand, 1)]) 35 [some (.inr (.inr x0)), some (.inl x1), some (.inl x2), some (.inl x3), some (.inl x4), some (.inl v4)] [.inl ((x2 >>> (x4 &&& 31)) &&& (1 : Int32))] (by decide +kernel) rfl ?_
    refine s_if_eq (tgt := 47) (off := 12) (by decide +kernel) (by decide) (fun h5 => ?_) (fun h5 => ?_)
    · skip
      refine s_run (b := [(.iinc 4 1, 3), (.goto (-44), 3)]) 6 [some (.inr (.inr x0)), some (.inl x1), some (.inl x2), some (.inl x3), some (.inl (x4 + (1 : Int32))), some (.inl v4)] [] (by decide +kernel) rfl ?_
      exact s_lsub (ls' := [some (.inr (.inr x0)), some (.inl x1), some (.inl x2), some (.inl x3), some (.inl (x4 + (1 : Int32))), none]) ⟨rfl, ⟨rfl, ⟨rfl, ⟨rfl, ⟨rfl, trivial⟩⟩⟩⟩⟩ (kk1 x3 (x4 + (1 : Int32)))
    · skip
      refine s_run (b := [(.iload 5, 2), (.iload_n 3, 1)]) 41 [some (.inr (.inr x0)), some (.inl x1), some (.inl x2), some (.inl x3), some (.inl x4), some (.inl v4)] [.inl x3, .inl v4] (by decide +kernel) rfl ?_
      refine s_ic_ge (tgt := 47) (off := 6) (by decide +kernel) (by decide) (fun h6 => ?_) (fun h6 => ?_)
      · skip
        refine s_run (b := [(.iinc 4 1, 3), (.goto (-44), 3)]) 6 [some (.inr (.inr x0)), some (.inl x1), some (.inl x2), some (.inl x3), some (.inl (x4 + (1 : Int32))), some (.inl v4)] [] (by decide +kernel) rfl ?_
        exact s_lsub (ls' := [some (.inr (.inr x0)), some (.inl x1), some (.inl x2), some (.inl x3), some (.inl (x4 + (1 : Int32))), none]) ⟨rfl, ⟨rfl, ⟨rfl, ⟨rfl, ⟨rfl, trivial⟩⟩⟩⟩⟩ (kk1 x3 (x4 + (1 : Int32)))
      · skip
        refine s_run (b := [(.iload 5, 2), (.istore_n 3, 1), (.iinc 4 1, 3), (.goto (-44), 3)]) 6 [some (.inr (.inr x0)), some (.inl x1), some (.inl x2), some (.inl v4), some (.inl (x4 + (1 : Int32))), some (.inl v4)] [] (by decide +kernel) rfl ?_
        exact s_lsub (ls' := [some (.inr (.inr x0)), some (.inl x1), some (.inl x2), some (.inl v4), some (.inl (x4 + (1 : Int32))), none]) ⟨rfl, ⟨rfl, ⟨rfl, ⟨rfl, ⟨rfl, trivial⟩⟩⟩⟩⟩ (kk1 v4 (x4 + (1 : Int32)))
set_option maxRecDepth 20000 in
theorem L_X5_nearestGap_6 {l : Launch} {G : Gv} {lim : Nat × Nat} (M : Mem) (x0 : Nat) (x1 : Int32) (x2 : Int32) (x3 : Int32) (x4 : Int32) (K : ((Int32)) → Option (Option Value × Mem)) (kk2_0 : ∀ r : Int32, SimR l G Y_X5_nearestGap lim (K r) 53 [none, none, none, some (.inl r), none, none] [] M) : Sim l G Y_X5_nearestGap lim (f_X5_nearestGap_L6 M x0 x1 x2 x3 x4) K 6 [some (.inr (.inr x0)), some (.inl x1), some (.inl x2), some (.inl x3), some (.inl x4), none] [] M :=
  s_iter (f := fun s : Int32 × Int32 => f_X5_nearestGap_B6 M x0 x1 x2 s.1 s.2) (hd := 6) (cl := fun s => [some (.inr (.inr x0)), some (.inl x1), some (.inl x2), some (.inl s.1), some (.inl s.2), none]) (cm := fun s => M) (xp := fun _ => 53) (xl := fun r => [none, none, none, some (.inl r), none, none]) (xm := fun r => M) (fun s K h1 h2 => B_X5_nearestGap_6 M x0 x1 x2 s.1 s.2 K (fun a3 a4 => h1 (a3, a4)) (fun a3 => h2 a3)) 1048576 (x3, x4) K kk2_0
def f_X5_nearestGap (M : Mem) (x0 : Nat) (x1 : Int32) (x2 : Int32) : Option (Int32) :=
  (f_X5_nearestGap_L6 M x0 x1 x2 (31 : Int32) (0 : Int32)).bind fun r1 =>
  some r1
set_option maxRecDepth 20000 in
theorem S_X5_nearestGap {l : Launch} {G : Gv} {lim : Nat × Nat} (M : Mem) (x0 : Nat) (x1 : Int32) (x2 : Int32) : Sim l G Y_X5_nearestGap lim (f_X5_nearestGap M x0 x1 x2) (fun z => some (some (.int z), M)) 0 [some (.inr (.inr x0)), some (.inl x1), some (.inl x2), none, none, none] [] M := by
  unfold f_X5_nearestGap
  refine s_run (b := [(.bipush 31, 2), (.istore_n 3, 1), (.iconst 0, 1), (.istore 4, 2)]) 6 [some (.inr (.inr x0)), some (.inl x1), some (.inl x2), some (.inl (31 : Int32)), some (.inl (0 : Int32)), none] [] (by decide +kernel) rfl ?_
  refine s_lsub (ls' := [some (.inr (.inr x0)), some (.inl x1), some (.inl x2), some (.inl (31 : Int32)), some (.inl (0 : Int32)), none]) ⟨rfl, ⟨rfl, ⟨rfl, ⟨rfl, ⟨rfl, trivial⟩⟩⟩⟩⟩ ?_
  refine sim_bind (L_X5_nearestGap_6 M x0 x1 x2 (31 : Int32) (0 : Int32) _ (fun r1 => ?_))
  change Sim l G Y_X5_nearestGap lim _ _ 53 [none, none, none, some (.inl r1), none, none] [] M
  refine s_run (b := [(.iload_n 3, 1)]) 54 [none, none, none, some (.inl r1), none, none] [.inl r1] (by decide +kernel) rfl ?_
  exact s_iret (by decide +kernel) rfl
set_option maxRecDepth 20000 in
theorem c_X5_nearestGap {l : Launch} {G : Gv} {M : Mem} {x0 : Nat} {x1 : Int32} {x2 : Int32} {z : Int32} (h : f_X5_nearestGap M x0 x1 x2 = some z) : MetS l G Y_X5_nearestGap [.inr (.inr x0), .inl x1, .inl x2] M (some (.int z)) M :=
  met_of (ls0 := [some (.inr (.inr x0)), some (.inl x1), some (.inl x2), none, none, none]) (by decide) rfl (lv_in (m := 3) rfl) (sl_le (Nat.le_of_ble_eq_true rfl)) (by rw [h]; rfl) (Or.inl ⟨rfl, rfl⟩) (S_X5_nearestGap M x0 x1 x2)
def f_X3_ringOf (M : Mem) (x0 : Nat) (x1 : Int32) (x2 : Int32) (x3 : Int32) (x4 : Int32) : Option (Int32) :=
  (gR M 5 x0 7).bind fun v1 =>
  (aI M 0 v1 x1).bind fun v2 =>
  (gR M 5 x0 5).bind fun v3 =>
  (aI M 0 v3 x1).bind fun v4 =>
  (if v4 = (0 : Int32) then
    some v2
  else
  (if v4 = (1 : Int32) then
    (if (v2 - x4) ≤ (1 : Int32) then
      some (1 : Int32)
    else
      some (v2 - x4))
  else
  (if v4 = (2 : Int32) then
    some (0 : Int32)
  else
  (if v4 = (3 : Int32) then
    some (v2 + x4)
  else
  (if v4 = (4 : Int32) then
    (ob M 5 x0).bind fun _ => (f_X5_gap M x0 x1 x2).bind fun v11 =>
    (ob M 5 x0).bind fun _ => (f_X5_nearestGap M x0 x2 x3).bind fun v12 =>
    (if v11 = v12 then
      some v2
    else
      some (0 : Int32))
  else
  some (0 : Int32))))))
set_option maxRecDepth 20000 in
theorem S_X3_ringOf {l : Launch} {G : Gv} {lim : Nat × Nat} (M : Mem) (x0 : Nat) (x1 : Int32) (x2 : Int32) (x3 : Int32) (x4 : Int32) : Sim l G Y_X3_ringOf lim (f_X3_ringOf M x0 x1 x2 x3 x4) (fun z => some (some (.int z), M)) 0 [some (.inr (.inr x0)), some (.inl x1), some (.inl x2), some (.inl x3), some (.inl x4), none] [] M := by
  unfold f_X3_ringOf
  refine s_run (b := [(.aload_n 0, 1)]) 1 [some (.inr (.inr x0)), some (.inl x1), some (.inl x2), some (.inl x3), some (.inl x4), none] [.inr (.inr x0)] (by decide +kernel) rfl ?_
  refine s_gR fl_3_52 rfl (by decide +kernel) (fun v1 => ?_)
  refine s_run (b := [(.iload_n 1, 1)]) 5 [some (.inr (.inr x0)), some (.inl x1), some (.inl x2), some (.inl x3), some (.inl x4), none] [.inl x1, .inr (.inr v1)] (by decide +kernel) rfl ?_
  refine s_ia (by decide +kernel) (fun v2 => ?_)
  refine s_run (b := [(.istore 5, 2), (.aload_n 0, 1)]) 9 [some (.inr (.inr x0)), some (.inl x1), some (.inl x2), some (.inl x3), some (.inl x4), some (.inl v2)] [.inr (.inr x0)] (by decide +kernel) rfl ?_
  refine s_gR fl_3_45 rfl (by decide +kernel) (fun v3 => ?_)
  refine s_run (b := [(.iload_n 1, 1)]) 13 [some (.inr (.inr x0)), some (.inl x1), some (.inl x2), some (.inl x3), some (.inl x4), some (.inl v2)] [.inl x1, .inr (.inr v3)] (by decide +kernel) rfl ?_
  refine s_ia (by decide +kernel) (fun v4 => ?_)
  refine s_ite (fun h5 => ?_) (fun h5 => ?_)
  · refine s_tabIn (off := 34) (tgt := 48) (dflt := 84) (lo := 0) (hi := 4) (offs := #[34, 37, 84, 56, 62]) (len := 34) (0 : Int32) (by decide +kernel) h5 rfl rfl rfl (by decide) ?_
    change Sim l G Y_X3_ringOf lim _ _ 48 [some (.inr (.inr x0)), some (.inl x1), some (.inl x2), some (.inl x3), some (.inl x4), some (.inl v2)] [] M
    refine s_run (b := [(.iload 5, 2)]) 50 [some (.inr (.inr x0)), some (.inl x1), some (.inl x2), some (.inl x3), some (.inl x4), some (.inl v2)] [.inl v2] (by decide +kernel) rfl ?_
    exact s_iret (by decide +kernel) rfl
  refine s_ite (fun h6 => ?_) (fun h6 => ?_)
  · refine s_tabIn (off := 37) (tgt := 51) (dflt := 84) (lo := 0) (hi := 4) (offs := #[34, 37, 84, 56, 62]) (len := 34) (1 : Int32) (by decide +kernel) h6 rfl rfl rfl (by decide) ?_
    change Sim l G Y_X3_ringOf lim _ _ 51 [some (.inr (.inr x0)), some (.inl x1), some (.inl x2), some (.inl x3), some (.inl x4), some (.inl v2)] [] M
    refine s_run (b := [(.iload 5, 2), (.iload 4, 2), (.isub, 1), (.iconst 1, 1)]) 57 [some (.inr (.inr x0)), some (.inl x1), some (.inl x2), some (.inl x3), some (.inl x4), some (.inl v2)] [.inl (1 : Int32), .inl (v2 - x4)] (by decide +kernel) rfl ?_
    refine s_ic_le (tgt := 68) (off := 11) (by decide +kernel) (by decide) (fun h7 => ?_) (fun h7 => ?_)
    · skip
      refine s_run (b := [(.iconst 1, 1)]) 69 [some (.inr (.inr x0)), some (.inl x1), some (.inl x2), some (.inl x3), some (.inl x4), some (.inl v2)] [.inl (1 : Int32)] (by decide +kernel) rfl ?_
      exact s_iret (by decide +kernel) rfl
    · skip
      refine s_run (b := [(.iload 5, 2), (.iload 4, 2), (.isub, 1), (.goto 4, 3)]) 69 [some (.inr (.inr x0)), some (.inl x1), some (.inl x2), some (.inl x3), some (.inl x4), some (.inl v2)] [.inl (v2 - x4)] (by decide +kernel) rfl ?_
      exact s_iret (by decide +kernel) rfl
  refine s_ite (fun h8 => ?_) (fun h8 => ?_)
  · refine s_tabIn (off := 84) (tgt := 98) (dflt := 84) (lo := 0) (hi := 4) (offs := #[34, 37, 84, 56, 62]) (len := 34) (2 : Int32) (by decide +kernel) h8 rfl rfl rfl (by decide) ?_
    change Sim l G Y_X3_ringOf lim _ _ 98 [some (.inr (.inr x0)), some (.inl x1), some (.inl x2), some (.inl x3), some (.inl x4), some (.inl v2)] [] M
    refine s_run (b := [(.iconst 0, 1)]) 99 [some (.inr (.inr x0)), some (.inl x1), some (.inl x2), some (.inl x3), some (.inl x4), some (.inl v2)] [.inl (0 : Int32)] (by decide +kernel) rfl ?_
    exact s_iret (by decide +kernel) rfl
  refine s_ite (fun h9 => ?_) (fun h9 => ?_)
  · refine s_tabIn (off := 56) (tgt := 70) (dflt := 84) (lo := 0) (hi := 4) (offs := #[34, 37, 84, 56, 62]) (len := 34) (3 : Int32) (by decide +kernel) h9 rfl rfl rfl (by decide) ?_
    change Sim l G Y_X3_ringOf lim _ _ 70 [some (.inr (.inr x0)), some (.inl x1), some (.inl x2), some (.inl x3), some (.inl x4), some (.inl v2)] [] M
    refine s_run (b := [(.iload 5, 2), (.iload 4, 2), (.iadd, 1)]) 75 [some (.inr (.inr x0)), some (.inl x1), some (.inl x2), some (.inl x3), some (.inl x4), some (.inl v2)] [.inl (v2 + x4)] (by decide +kernel) rfl ?_
    exact s_iret (by decide +kernel) rfl
  refine s_ite (fun h10 => ?_) (fun h10 => ?_)
  · refine s_tabIn (off := 62) (tgt := 76) (dflt := 84) (lo := 0) (hi := 4) (offs := #[34, 37, 84, 56, 62]) (len := 34) (4 : Int32) (by decide +kernel) h10 rfl rfl rfl (by decide) ?_
    change Sim l G Y_X3_ringOf lim _ _ 76 [some (.inr (.inr x0)), some (.inl x1), some (.inl x2), some (.inl x3), some (.inl x4), some (.inl v2)] [] M
    refine s_run (b := [(.aload_n 0, 1), (.iload_n 1, 1), (.iload_n 2, 1)]) 79 [some (.inr (.inr x0)), some (.inl x1), some (.inl x2), some (.inl x3), some (.inl x4), some (.inl v2)] [.inl x2, .inl x1, .inr (.inr x0)] (by decide +kernel) rfl ?_
    refine s_cV (Z := Y_X5_gap) (c := 5) (vs := [.inl x1, .inl x2]) (st := []) (rO := fun z => some (.inl z)) (mO := fun _ => M) zk_X5_gap zi_X5_gap q790 rfl ⟨by decide, by decide⟩ ⟨rfl, rfl⟩ rfl rfl (Nat.le_of_ble_eq_true rfl) (by decide +kernel) (fun z hz => c_X5_gap hz) (fun v11 => ?_)
    change Sim l G Y_X3_ringOf lim _ _ 82 [some (.inr (.inr x0)), some (.inl x1), some (.inl x2), some (.inl x3), some (.inl x4), some (.inl v2)] [.inl v11] M
    refine s_run (b := [(.aload_n 0, 1), (.iload_n 2, 1), (.iload_n 3, 1)]) 85 [some (.inr (.inr x0)), some (.inl x1), some (.inl x2), some (.inl x3), some (.inl x4), some (.inl v2)] [.inl x3, .inl x2, .inr (.inr x0), .inl v11] (by decide +kernel) rfl ?_
    refine s_cV (Z := Y_X5_nearestGap) (c := 5) (vs := [.inl x2, .inl x3]) (st := [.inl v11]) (rO := fun z => some (.inl z)) (mO := fun _ => M) zk_X5_nearestGap zi_X5_nearestGap q797 rfl ⟨by decide, by decide⟩ ⟨rfl, rfl⟩ rfl rfl (Nat.le_of_ble_eq_true rfl) (by decide +kernel) (fun z hz => c_X5_nearestGap hz) (fun v12 => ?_)
    change Sim l G Y_X3_ringOf lim _ _ 88 [some (.inr (.inr x0)), some (.inl x1), some (.inl x2), some (.inl x3), some (.inl x4), some (.inl v2)] [.inl v12, .inl v11] M
    refine s_ic_ne (tgt := 96) (off := 8) (by decide +kernel) (by decide) (fun h13 => ?_) (fun h13 => ?_)
    · skip
      refine s_run (b := [(.iload 5, 2), (.goto 4, 3)]) 97 [some (.inr (.inr x0)), some (.inl x1), some (.inl x2), some (.inl x3), some (.inl x4), some (.inl v2)] [.inl v2] (by decide +kernel) rfl ?_
      exact s_iret (by decide +kernel) rfl
    · skip
      refine s_run (b := [(.iconst 0, 1)]) 97 [some (.inr (.inr x0)), some (.inl x1), some (.inl x2), some (.inl x3), some (.inl x4), some (.inl v2)] [.inl (0 : Int32)] (by decide +kernel) rfl ?_
      exact s_iret (by decide +kernel) rfl
  refine s_tabOut (tgt := 98) (dflt := 84) (lo := 0) (hi := 4) (offs := #[34, 37, 84, 56, 62]) (len := 34) (by decide +kernel) (tab_out (fun k hk => by rcases (show k = 0 ∨ k = 1 ∨ k = 2 ∨ k = 3 ∨ k = 4 by omega) with rfl | rfl | rfl | rfl | rfl <;> first | exact i32_ne h5 (by decide) | exact i32_ne h6 (by decide) | exact i32_ne h8 (by decide) | exact i32_ne h9 (by decide) | exact i32_ne h10 (by decide))) (by decide) ?_
  change Sim l G Y_X3_ringOf lim _ _ 98 [some (.inr (.inr x0)), some (.inl x1), some (.inl x2), some (.inl x3), some (.inl x4), some (.inl v2)] [] M
  refine s_run (b := [(.iconst 0, 1)]) 99 [some (.inr (.inr x0)), some (.inl x1), some (.inl x2), some (.inl x3), some (.inl x4), some (.inl v2)] [.inl (0 : Int32)] (by decide +kernel) rfl ?_
  exact s_iret (by decide +kernel) rfl
set_option maxRecDepth 20000 in
theorem c_X3_ringOf {l : Launch} {G : Gv} {M : Mem} {x0 : Nat} {x1 : Int32} {x2 : Int32} {x3 : Int32} {x4 : Int32} {z : Int32} (h : f_X3_ringOf M x0 x1 x2 x3 x4 = some z) : MetS l G Y_X3_ringOf [.inr (.inr x0), .inl x1, .inl x2, .inl x3, .inl x4] M (some (.int z)) M :=
  met_of (ls0 := [some (.inr (.inr x0)), some (.inl x1), some (.inl x2), some (.inl x3), some (.inl x4), none]) (by decide) rfl (lv_in (m := 1) rfl) (sl_le (Nat.le_of_ble_eq_true rfl)) (by rw [h]; rfl) (Or.inl ⟨rfl, rfl⟩) (S_X3_ringOf M x0 x1 x2 x3 x4)
def f_X3_asTold_B34 (M : Mem) (x0 : Nat) (x1 : Nat) (x2 : Int32) (x4 : Nat) (x5 : Int32) (x6 : Int32) : Option ((Int32 × Mem) ⊕ ((Mem))) :=
  (gI M 5 x1 0).bind fun v1 =>
  (if v1 ≤ x6 then
    some (.inr M)
  else
    (if ((x5 >>> (x6 &&& 31)) &&& (1 : Int32)) = 0 then
      some (.inl ((x6 + (1 : Int32)), M))
    else
      (aI M 0 x4 x6).bind fun v4 =>
      (f_X3_ringOf M x1 x6 x2 x5 v4).bind fun v5 =>
      (ob M 3 x0).bind fun _ => (f_X3_offer M x0 x1 x6 x2 v5).bind fun z6 =>
      some (.inl ((x6 + (1 : Int32)), z6))))
def f_X3_asTold_L34 (M : Mem) (x0 : Nat) (x1 : Nat) (x2 : Int32) (x4 : Nat) (x5 : Int32) (x6 : Int32) : Option ((Mem)) := iter (fun s : Int32 × Mem => f_X3_asTold_B34 s.2 x0 x1 x2 x4 x5 s.1) 1048576 (x6, M)
set_option maxRecDepth 20000 in
theorem B_X3_asTold_34 {l : Launch} {G : Gv} {lim : Nat × Nat} (M : Mem) (x0 : Nat) (x1 : Nat) (x2 : Int32) (x4 : Nat) (x5 : Int32) (x6 : Int32) (K : (Int32 × Mem) ⊕ ((Mem)) → Option (Option Value × Mem)) (kk1 : ∀ (s6 : Int32) (s_ : Mem), SimR l G Y_X3_asTold lim (K (.inl (s6, s_))) 34 [some (.inr (.inr x0)), some (.inr (.inr x1)), some (.inl x2), none, some (.inr (.inr x4)), some (.inl x5), some (.inl s6)] [] s_) (kk2_0 : ∀ (s_ : Mem), SimR l G Y_X3_asTold lim (K (.inr s_)) 81 [none, none, none, none, none, none, none] [] s_) : Sim l G Y_X3_asTold lim (f_X3_asTold_B34 M x0 x1 x2 x4 x5 x6) K 34 [some (.inr (.inr x0)), some (.inr (.inr x1)), some (.inl x2), none, some (.inr (.inr x4)), some (.inl x5), some (.inl x6)] [] M := by
  unfold f_X3_asTold_B34
  refine s_run (b := [(.iload 6, 2), (.aload_n 1, 1)]) 37 [some (.inr (.inr x0)), some (.inr (.inr x1)), some (.inl x2), none, some (.inr (.inr x4)), some (.inl x5), some (.inl x6)] [.inr (.inr x1), .inl x6] (by decide +kernel) rfl ?_
  refine s_gI fl_3_34 rfl (by decide +kernel) (fun v1 => ?_)
  refine s_ic_ge (tgt := 81) (off := 41) (by decide +kernel) (by decide) (fun h2 => ?_) (fun h2 => ?_)
  · skip
    exact s_lsub (ls' := [none, none, none, none, none, none, none]) trivial (kk2_0 M)
  · skip
    refine s_run (b := [(.iload 5, 2), (.iload 6, 2), (.ishr, 1), (.iconst 1, 1), (.iand, 1)]) 50 [some (.inr (.inr x0)), some (.inr (.inr x1)), some (.inl x2), none, some (.inr (.inr x4)), some (.inl x5), some (.inl x6)] [.inl ((x5 >>> (x6 &&& 31)) &&& (1 : Int32))] (by decide +kernel) rfl ?_
    refine s_if_eq (tgt := 75) (off := 25) (by decide +kernel) (by decide) (fun h3 => ?_) (fun h3 => ?_)
    · skip
      refine s_run (b := [(.iinc 6 1, 3), (.goto (-44), 3)]) 34 [some (.inr (.inr x0)), some (.inr (.inr x1)), some (.inl x2), none, some (.inr (.inr x4)), some (.inl x5), some (.inl (x6 + (1 : Int32)))] [] (by decide +kernel) rfl ?_
      exact s_lsub (ls' := [some (.inr (.inr x0)), some (.inr (.inr x1)), some (.inl x2), none, some (.inr (.inr x4)), some (.inl x5), some (.inl (x6 + (1 : Int32)))]) ⟨rfl, ⟨rfl, ⟨rfl, ⟨rfl, ⟨rfl, ⟨rfl, trivial⟩⟩⟩⟩⟩⟩ (kk1 (x6 + (1 : Int32)) M)
    · skip
      refine s_run (b := [(.aload_n 0, 1), (.aload_n 1, 1), (.iload 6, 2), (.iload_n 2, 1), (.aload_n 1, 1), (.iload 6, 2), (.iload_n 2, 1), (.iload 5, 2), (.aload 4, 2), (.iload 6, 2)]) 68 [some (.inr (.inr x0)), some (.inr (.inr x1)), some (.inl x2), none, some (.inr (.inr x4)), some (.inl x5), some (.inl x6)] [.inl x6, .inr (.inr x4), .inl x5, .inl x2, .inl x6, .inr (.inr x1), .inl x2, .inl x6, .inr (.inr x1), .inr (.inr x0)] (by decide +kernel) rfl ?_
      refine s_ia (by decide +kernel) (fun v4 => ?_)
      refine s_cS (Z := Y_X3_ringOf) (vs := [.inr (.inr x1), .inl x6, .inl x2, .inl x5, .inl v4]) (st := [.inl x2, .inl x6, .inr (.inr x1), .inr (.inr x0)]) (rO := fun z => some (.inl z)) (mO := fun _ => M) zk_X3_ringOf q795 q794 ⟨by decide, by decide⟩ ⟨rfl, rfl⟩ rfl rfl (Nat.le_of_ble_eq_true rfl) (by decide +kernel) (fun z hz => c_X3_ringOf hz) (fun v5 => ?_)
      change Sim l G Y_X3_asTold lim _ _ 72 [some (.inr (.inr x0)), some (.inr (.inr x1)), some (.inl x2), none, some (.inr (.inr x4)), some (.inl x5), some (.inl x6)] [.inl v5, .inl x2, .inl x6, .inr (.inr x1), .inr (.inr x0)] M
      refine s_cV (Z := Y_X3_offer) (c := 3) (vs := [.inr (.inr x1), .inl x6, .inl x2, .inl v5]) (st := []) (rO := fun _ => none) (mO := fun z => z) zk_X3_offer zi_X3_offer q786 rfl ⟨by decide, by decide⟩ ⟨rfl, rfl⟩ rfl rfl (Nat.le_of_ble_eq_true rfl) (by decide +kernel) (fun z hz => c_X3_offer hz) (fun z6 => ?_)
      change Sim l G Y_X3_asTold lim _ _ 75 [some (.inr (.inr x0)), some (.inr (.inr x1)), some (.inl x2), none, some (.inr (.inr x4)), some (.inl x5), some (.inl x6)] [] z6
      refine s_run (b := [(.iinc 6 1, 3), (.goto (-44), 3)]) 34 [some (.inr (.inr x0)), some (.inr (.inr x1)), some (.inl x2), none, some (.inr (.inr x4)), some (.inl x5), some (.inl (x6 + (1 : Int32)))] [] (by decide +kernel) rfl ?_
      exact s_lsub (ls' := [some (.inr (.inr x0)), some (.inr (.inr x1)), some (.inl x2), none, some (.inr (.inr x4)), some (.inl x5), some (.inl (x6 + (1 : Int32)))]) ⟨rfl, ⟨rfl, ⟨rfl, ⟨rfl, ⟨rfl, ⟨rfl, trivial⟩⟩⟩⟩⟩⟩ (kk1 (x6 + (1 : Int32)) z6)
set_option maxRecDepth 20000 in
theorem L_X3_asTold_34 {l : Launch} {G : Gv} {lim : Nat × Nat} (M : Mem) (x0 : Nat) (x1 : Nat) (x2 : Int32) (x4 : Nat) (x5 : Int32) (x6 : Int32) (K : ((Mem)) → Option (Option Value × Mem)) (kk2_0 : ∀ r : Mem, SimR l G Y_X3_asTold lim (K r) 81 [none, none, none, none, none, none, none] [] r) : Sim l G Y_X3_asTold lim (f_X3_asTold_L34 M x0 x1 x2 x4 x5 x6) K 34 [some (.inr (.inr x0)), some (.inr (.inr x1)), some (.inl x2), none, some (.inr (.inr x4)), some (.inl x5), some (.inl x6)] [] M :=
  s_iter (f := fun s : Int32 × Mem => f_X3_asTold_B34 s.2 x0 x1 x2 x4 x5 s.1) (hd := 34) (cl := fun s => [some (.inr (.inr x0)), some (.inr (.inr x1)), some (.inl x2), none, some (.inr (.inr x4)), some (.inl x5), some (.inl s.1)]) (cm := fun s => s.2) (xp := fun _ => 81) (xl := fun r => [none, none, none, none, none, none, none]) (xm := fun r => r) (fun s K h1 h2 => B_X3_asTold_34 s.2 x0 x1 x2 x4 x5 s.1 K (fun a6 a_ => h1 (a6, a_)) (fun a_ => h2 a_)) 1048576 (x6, M) K kk2_0
def f_X3_asTold (M : Mem) (x0 : Nat) (x1 : Nat) (x2 : Int32) (x3 : Int32) (x4 : Nat) : Option (Mem) :=
  (ob M 3 x0).bind fun _ => (f_X3_clear M x0).bind fun z1 =>
  (if ((x3 >>> (x2 &&& 31)) &&& (1 : Int32)) = 0 then
    (gR z1 5 x1 13).bind fun v3 =>
    (aI z1 0 v3 x2).bind fun v4 =>
    (f_X3_asTold_L34 z1 x0 x1 x2 x4 (v4 &&& x3) (0 : Int32)).bind fun r5 =>
    some r5
  else
    (ob z1 3 x0).bind fun _ => (f_X3_offer z1 x0 x1 x2 x2 (1 : Int32)).bind fun z6 =>
    some z6)
set_option maxRecDepth 20000 in
theorem S_X3_asTold {l : Launch} {G : Gv} {lim : Nat × Nat} (M : Mem) (x0 : Nat) (x1 : Nat) (x2 : Int32) (x3 : Int32) (x4 : Nat) : Sim l G Y_X3_asTold lim (f_X3_asTold M x0 x1 x2 x3 x4) (fun z => some (none, z)) 0 [some (.inr (.inr x0)), some (.inr (.inr x1)), some (.inl x2), some (.inl x3), some (.inr (.inr x4)), none, none] [] M := by
  unfold f_X3_asTold
  refine s_run (b := [(.aload_n 0, 1)]) 1 [some (.inr (.inr x0)), some (.inr (.inr x1)), some (.inl x2), some (.inl x3), some (.inr (.inr x4)), none, none] [.inr (.inr x0)] (by decide +kernel) rfl ?_
  refine s_cV (Z := Y_X3_clear) (c := 3) (vs := []) (st := []) (rO := fun _ => none) (mO := fun z => z) zk_X3_clear zi_X3_clear q782 rfl ⟨by decide, by decide⟩ ⟨rfl, rfl⟩ rfl rfl (Nat.le_of_ble_eq_true rfl) (by decide +kernel) (fun z hz => c_X3_clear hz) (fun z1 => ?_)
  change Sim l G Y_X3_asTold lim _ _ 4 [some (.inr (.inr x0)), some (.inr (.inr x1)), some (.inl x2), some (.inl x3), some (.inr (.inr x4)), none, none] [] z1
  refine s_run (b := [(.iload_n 3, 1), (.iload_n 2, 1), (.ishr, 1), (.iconst 1, 1), (.iand, 1)]) 9 [some (.inr (.inr x0)), some (.inr (.inr x1)), some (.inl x2), some (.inl x3), some (.inr (.inr x4)), none, none] [.inl ((x3 >>> (x2 &&& 31)) &&& (1 : Int32))] (by decide +kernel) rfl ?_
  refine s_if_eq (tgt := 21) (off := 12) (by decide +kernel) (by decide) (fun h2 => ?_) (fun h2 => ?_)
  · skip
    refine s_run (b := [(.aload_n 1, 1)]) 22 [some (.inr (.inr x0)), some (.inr (.inr x1)), some (.inl x2), some (.inl x3), some (.inr (.inr x4)), none, none] [.inr (.inr x1)] (by decide +kernel) rfl ?_
    refine s_gR fl_3_28 rfl (by decide +kernel) (fun v3 => ?_)
    refine s_run (b := [(.iload_n 2, 1)]) 26 [some (.inr (.inr x0)), some (.inr (.inr x1)), some (.inl x2), some (.inl x3), some (.inr (.inr x4)), none, none] [.inl x2, .inr (.inr v3)] (by decide +kernel) rfl ?_
    refine s_ia (by decide +kernel) (fun v4 => ?_)
    refine s_run (b := [(.iload_n 3, 1), (.iand, 1), (.istore 5, 2), (.iconst 0, 1), (.istore 6, 2)]) 34 [some (.inr (.inr x0)), some (.inr (.inr x1)), some (.inl x2), some (.inl x3), some (.inr (.inr x4)), some (.inl (v4 &&& x3)), some (.inl (0 : Int32))] [] (by decide +kernel) rfl ?_
    refine s_lsub (ls' := [some (.inr (.inr x0)), some (.inr (.inr x1)), some (.inl x2), none, some (.inr (.inr x4)), some (.inl (v4 &&& x3)), some (.inl (0 : Int32))]) ⟨rfl, ⟨rfl, ⟨rfl, ⟨rfl, ⟨rfl, ⟨rfl, trivial⟩⟩⟩⟩⟩⟩ ?_
    refine sim_bind (L_X3_asTold_34 z1 x0 x1 x2 x4 (v4 &&& x3) (0 : Int32) _ (fun r5 => ?_))
    change Sim l G Y_X3_asTold lim _ _ 81 [none, none, none, none, none, none, none] [] r5
    exact s_vret (by decide +kernel) rfl
  · skip
    refine s_run (b := [(.aload_n 0, 1), (.aload_n 1, 1), (.iload_n 2, 1), (.iload_n 2, 1), (.iconst 1, 1)]) 17 [some (.inr (.inr x0)), some (.inr (.inr x1)), some (.inl x2), some (.inl x3), some (.inr (.inr x4)), none, none] [.inl (1 : Int32), .inl x2, .inl x2, .inr (.inr x1), .inr (.inr x0)] (by decide +kernel) rfl ?_
    refine s_cV (Z := Y_X3_offer) (c := 3) (vs := [.inr (.inr x1), .inl x2, .inl x2, .inl (1 : Int32)]) (st := []) (rO := fun _ => none) (mO := fun z => z) zk_X3_offer zi_X3_offer q786 rfl ⟨by decide, by decide⟩ ⟨rfl, rfl⟩ rfl rfl (Nat.le_of_ble_eq_true rfl) (by decide +kernel) (fun z hz => c_X3_offer hz) (fun z6 => ?_)
    change Sim l G Y_X3_asTold lim _ _ 20 [some (.inr (.inr x0)), some (.inr (.inr x1)), some (.inl x2), some (.inl x3), some (.inr (.inr x4)), none, none] [] z6
    exact s_vret (by decide +kernel) rfl
set_option maxRecDepth 20000 in
theorem c_X3_asTold {l : Launch} {G : Gv} {M : Mem} {x0 : Nat} {x1 : Nat} {x2 : Int32} {x3 : Int32} {x4 : Nat} {z : Mem} (h : f_X3_asTold M x0 x1 x2 x3 x4 = some z) : MetS l G Y_X3_asTold [.inr (.inr x0), .inr (.inr x1), .inl x2, .inl x3, .inr (.inr x4)] M none z :=
  met_of (ls0 := [some (.inr (.inr x0)), some (.inr (.inr x1)), some (.inl x2), some (.inl x3), some (.inr (.inr x4)), none, none]) (by decide) rfl (lv_in (m := 2) rfl) (sl_le (Nat.le_of_ble_eq_true rfl)) (by rw [h]; rfl) (Or.inl ⟨rfl, rfl⟩) (S_X3_asTold M x0 x1 x2 x3 x4)
def f_X5_hasCall (M : Mem) (x0 : Nat) (x1 : Int32) : Option (Int32) :=
  (if x1 < 0 then
    some (0 : Int32)
  else
    (gI M 5 x0 1).bind fun v2 =>
    (if v2 ≤ x1 then
      some (0 : Int32)
    else
      some (1 : Int32)))
set_option maxRecDepth 20000 in
theorem S_X5_hasCall {l : Launch} {G : Gv} {lim : Nat × Nat} (M : Mem) (x0 : Nat) (x1 : Int32) : Sim l G Y_X5_hasCall lim (f_X5_hasCall M x0 x1) (fun z => some (some (.int z), M)) 0 [some (.inr (.inr x0)), some (.inl x1)] [] M := by
  unfold f_X5_hasCall
  refine s_run (b := [(.iload_n 1, 1)]) 1 [some (.inr (.inr x0)), some (.inl x1)] [.inl x1] (by decide +kernel) rfl ?_
  refine s_if_lt (tgt := 16) (off := 15) (by decide +kernel) (by decide) (fun h1 => ?_) (fun h1 => ?_)
  · skip
    refine s_run (b := [(.iconst 0, 1)]) 17 [some (.inr (.inr x0)), some (.inl x1)] [.inl (0 : Int32)] (by decide +kernel) rfl ?_
    exact s_bret (Or.inl rfl) (by decide +kernel) rfl
  · skip
    refine s_run (b := [(.iload_n 1, 1), (.aload_n 0, 1)]) 6 [some (.inr (.inr x0)), some (.inl x1)] [.inr (.inr x0), .inl x1] (by decide +kernel) rfl ?_
    refine s_gI fl_5_49 rfl (by decide +kernel) (fun v2 => ?_)
    refine s_ic_ge (tgt := 16) (off := 7) (by decide +kernel) (by decide) (fun h3 => ?_) (fun h3 => ?_)
    · skip
      refine s_run (b := [(.iconst 0, 1)]) 17 [some (.inr (.inr x0)), some (.inl x1)] [.inl (0 : Int32)] (by decide +kernel) rfl ?_
      exact s_bret (Or.inl rfl) (by decide +kernel) rfl
    · skip
      refine s_run (b := [(.iconst 1, 1), (.goto 4, 3)]) 17 [some (.inr (.inr x0)), some (.inl x1)] [.inl (1 : Int32)] (by decide +kernel) rfl ?_
      exact s_bret (Or.inr rfl) (by decide +kernel) rfl
set_option maxRecDepth 20000 in
theorem c_X5_hasCall {l : Launch} {G : Gv} {M : Mem} {x0 : Nat} {x1 : Int32} {z : Int32} (h : f_X5_hasCall M x0 x1 = some z) : MetS l G Y_X5_hasCall [.inr (.inr x0), .inl x1] M (some (.int z)) M :=
  met_of (ls0 := [some (.inr (.inr x0)), some (.inl x1)]) (by decide) rfl (lv_in (m := 0) rfl) (sl_le (Nat.le_of_ble_eq_true rfl)) (by rw [h]; rfl) (Or.inl ⟨rfl, rfl⟩) (S_X5_hasCall M x0 x1)
def f_X2_ringCall (M : Mem) (x0 : Nat) (x1 : Int32) : Option (Int32 × Mem) :=
  (gR M 2 x0 3).bind fun v1 =>
  (ob M 5 v1).bind fun _ => (f_X5_hasCall M v1 x1).bind fun v2 =>
  (if v2 = 0 then
    some ((0 : Int32), M)
  else
    (gI M 2 x0 0).bind fun v4 =>
    (if ((v4 >>> (x1 &&& 31)) &&& (1 : Int32)) = 0 then
      (gR M 2 x0 12).bind fun v6 =>
      (gR M 2 x0 3).bind fun v7 =>
      (gR M 2 x0 3).bind fun v8 =>
      (gR M 5 v8 10).bind fun v9 =>
      (aI M 0 v9 x1).bind fun v10 =>
      (gI M 2 x0 4).bind fun v11 =>
      (gR M 2 x0 9).bind fun v12 =>
      (ob M 3 v6).bind fun _ => (f_X3_asTold M v6 v7 v10 v11 v12).bind fun z13 =>
      (ob z13 2 x0).bind fun _ => (f_X2_settle z13 x0 x1).bind fun z14 =>
      some ((1 : Int32), z14)
    else
      some ((0 : Int32), M)))
set_option maxRecDepth 20000 in
theorem S_X2_ringCall {l : Launch} {G : Gv} {lim : Nat × Nat} (M : Mem) (x0 : Nat) (x1 : Int32) : Sim l G Y_X2_ringCall lim (f_X2_ringCall M x0 x1) (fun z => some (some (.int z.1), z.2)) 0 [some (.inr (.inr x0)), some (.inl x1)] [] M := by
  unfold f_X2_ringCall
  refine s_run (b := [(.aload_n 0, 1)]) 1 [some (.inr (.inr x0)), some (.inl x1)] [.inr (.inr x0)] (by decide +kernel) rfl ?_
  refine s_gR fl_2_12 rfl (by decide +kernel) (fun v1 => ?_)
  refine s_run (b := [(.iload_n 1, 1)]) 5 [some (.inr (.inr x0)), some (.inl x1)] [.inl x1, .inr (.inr v1)] (by decide +kernel) rfl ?_
  refine s_cV (Z := Y_X5_hasCall) (c := 5) (vs := [.inl x1]) (st := []) (rO := fun z => some (.inl z)) (mO := fun _ => M) zk_X5_hasCall zi_X5_hasCall q777 rfl ⟨by decide, by decide⟩ ⟨rfl, rfl⟩ rfl rfl (Nat.le_of_ble_eq_true rfl) (by decide +kernel) (fun z hz => c_X5_hasCall hz) (fun v2 => ?_)
  change Sim l G Y_X2_ringCall lim _ _ 8 [some (.inr (.inr x0)), some (.inl x1)] [.inl v2] M
  refine s_if_eq (tgt := 22) (off := 14) (by decide +kernel) (by decide) (fun h3 => ?_) (fun h3 => ?_)
  · skip
    refine s_run (b := [(.iconst 0, 1)]) 23 [some (.inr (.inr x0)), some (.inl x1)] [.inl (0 : Int32)] (by decide +kernel) rfl ?_
    exact s_bret (Or.inl rfl) (by decide +kernel) rfl
  · skip
    refine s_run (b := [(.aload_n 0, 1)]) 12 [some (.inr (.inr x0)), some (.inl x1)] [.inr (.inr x0)] (by decide +kernel) rfl ?_
    refine s_gI fl_2_43 rfl (by decide +kernel) (fun v4 => ?_)
    refine s_run (b := [(.iload_n 1, 1), (.ishr, 1), (.iconst 1, 1), (.iand, 1)]) 19 [some (.inr (.inr x0)), some (.inl x1)] [.inl ((v4 >>> (x1 &&& 31)) &&& (1 : Int32))] (by decide +kernel) rfl ?_
    refine s_if_eq (tgt := 24) (off := 5) (by decide +kernel) (by decide) (fun h5 => ?_) (fun h5 => ?_)
    · skip
      refine s_run (b := [(.aload_n 0, 1)]) 25 [some (.inr (.inr x0)), some (.inl x1)] [.inr (.inr x0)] (by decide +kernel) rfl ?_
      refine s_gR fl_2_31 rfl (by decide +kernel) (fun v6 => ?_)
      refine s_run (b := [(.aload_n 0, 1)]) 29 [some (.inr (.inr x0)), some (.inl x1)] [.inr (.inr x0), .inr (.inr v6)] (by decide +kernel) rfl ?_
      refine s_gR fl_2_12 rfl (by decide +kernel) (fun v7 => ?_)
      refine s_run (b := [(.aload_n 0, 1)]) 33 [some (.inr (.inr x0)), some (.inl x1)] [.inr (.inr x0), .inr (.inr v7), .inr (.inr v6)] (by decide +kernel) rfl ?_
      refine s_gR fl_2_12 rfl (by decide +kernel) (fun v8 => ?_)
      refine s_gR fl_2_107 rfl (by decide +kernel) (fun v9 => ?_)
      refine s_run (b := [(.iload_n 1, 1)]) 40 [some (.inr (.inr x0)), some (.inl x1)] [.inl x1, .inr (.inr v9), .inr (.inr v7), .inr (.inr v6)] (by decide +kernel) rfl ?_
      refine s_ia (by decide +kernel) (fun v10 => ?_)
      refine s_run (b := [(.aload_n 0, 1)]) 42 [some (.inr (.inr x0)), some (.inl x1)] [.inr (.inr x0), .inl v10, .inr (.inr v7), .inr (.inr v6)] (by decide +kernel) rfl ?_
      refine s_gI fl_2_39 rfl (by decide +kernel) (fun v11 => ?_)
      refine s_run (b := [(.aload_n 0, 1)]) 46 [some (.inr (.inr x0)), some (.inl x1)] [.inr (.inr x0), .inl v11, .inl v10, .inr (.inr v7), .inr (.inr v6)] (by decide +kernel) rfl ?_
      refine s_gR fl_2_18 rfl (by decide +kernel) (fun v12 => ?_)
      refine s_cV (Z := Y_X3_asTold) (c := 3) (vs := [.inr (.inr v7), .inl v10, .inl v11, .inr (.inr v12)]) (st := []) (rO := fun _ => none) (mO := fun z => z) zk_X3_asTold zi_X3_asTold q778 rfl ⟨by decide, by decide⟩ ⟨rfl, rfl⟩ rfl rfl (Nat.le_of_ble_eq_true rfl) (by decide +kernel) (fun z hz => c_X3_asTold hz) (fun z13 => ?_)
      change Sim l G Y_X2_ringCall lim _ _ 52 [some (.inr (.inr x0)), some (.inl x1)] [] z13
      refine s_run (b := [(.aload_n 0, 1), (.iload_n 1, 1)]) 54 [some (.inr (.inr x0)), some (.inl x1)] [.inl x1, .inr (.inr x0)] (by decide +kernel) rfl ?_
      refine s_cV (Z := Y_X2_settle) (c := 2) (vs := [.inl x1]) (st := []) (rO := fun _ => none) (mO := fun z => z) zk_X2_settle zi_X2_settle q801 rfl ⟨by decide, by decide⟩ ⟨rfl, rfl⟩ rfl rfl (Nat.le_of_ble_eq_true rfl) (by decide +kernel) (fun z hz => c_X2_settle hz) (fun z14 => ?_)
      change Sim l G Y_X2_ringCall lim _ _ 57 [some (.inr (.inr x0)), some (.inl x1)] [] z14
      refine s_run (b := [(.iconst 1, 1)]) 58 [some (.inr (.inr x0)), some (.inl x1)] [.inl (1 : Int32)] (by decide +kernel) rfl ?_
      exact s_bret (Or.inr rfl) (by decide +kernel) rfl
    · skip
      refine s_run (b := [(.iconst 0, 1)]) 23 [some (.inr (.inr x0)), some (.inl x1)] [.inl (0 : Int32)] (by decide +kernel) rfl ?_
      exact s_bret (Or.inl rfl) (by decide +kernel) rfl
set_option maxRecDepth 20000 in
theorem c_X2_ringCall {l : Launch} {G : Gv} {M : Mem} {x0 : Nat} {x1 : Int32} {z : Int32 × Mem} (h : f_X2_ringCall M x0 x1 = some z) : MetS l G Y_X2_ringCall [.inr (.inr x0), .inl x1] M (some (.int z.1)) z.2 :=
  met_of (ls0 := [some (.inr (.inr x0)), some (.inl x1)]) (by decide) rfl (lv_in (m := 0) rfl) (sl_le (Nat.le_of_ble_eq_true rfl)) (by rw [h]; rfl) (Or.inl ⟨rfl, rfl⟩) (S_X2_ringCall M x0 x1)
def f_X5_hasDesk (M : Mem) (x0 : Nat) (x1 : Int32) : Option (Int32) :=
  (if x1 < 0 then
    some (0 : Int32)
  else
    (gI M 5 x0 0).bind fun v2 =>
    (if v2 ≤ x1 then
      some (0 : Int32)
    else
      some (1 : Int32)))
set_option maxRecDepth 20000 in
theorem S_X5_hasDesk {l : Launch} {G : Gv} {lim : Nat × Nat} (M : Mem) (x0 : Nat) (x1 : Int32) : Sim l G Y_X5_hasDesk lim (f_X5_hasDesk M x0 x1) (fun z => some (some (.int z), M)) 0 [some (.inr (.inr x0)), some (.inl x1)] [] M := by
  unfold f_X5_hasDesk
  refine s_run (b := [(.iload_n 1, 1)]) 1 [some (.inr (.inr x0)), some (.inl x1)] [.inl x1] (by decide +kernel) rfl ?_
  refine s_if_lt (tgt := 16) (off := 15) (by decide +kernel) (by decide) (fun h1 => ?_) (fun h1 => ?_)
  · skip
    refine s_run (b := [(.iconst 0, 1)]) 17 [some (.inr (.inr x0)), some (.inl x1)] [.inl (0 : Int32)] (by decide +kernel) rfl ?_
    exact s_bret (Or.inl rfl) (by decide +kernel) rfl
  · skip
    refine s_run (b := [(.iload_n 1, 1), (.aload_n 0, 1)]) 6 [some (.inr (.inr x0)), some (.inl x1)] [.inr (.inr x0), .inl x1] (by decide +kernel) rfl ?_
    refine s_gI fl_5_45 rfl (by decide +kernel) (fun v2 => ?_)
    refine s_ic_ge (tgt := 16) (off := 7) (by decide +kernel) (by decide) (fun h3 => ?_) (fun h3 => ?_)
    · skip
      refine s_run (b := [(.iconst 0, 1)]) 17 [some (.inr (.inr x0)), some (.inl x1)] [.inl (0 : Int32)] (by decide +kernel) rfl ?_
      exact s_bret (Or.inl rfl) (by decide +kernel) rfl
    · skip
      refine s_run (b := [(.iconst 1, 1), (.goto 4, 3)]) 17 [some (.inr (.inr x0)), some (.inl x1)] [.inl (1 : Int32)] (by decide +kernel) rfl ?_
      exact s_bret (Or.inr rfl) (by decide +kernel) rfl
set_option maxRecDepth 20000 in
theorem c_X5_hasDesk {l : Launch} {G : Gv} {M : Mem} {x0 : Nat} {x1 : Int32} {z : Int32} (h : f_X5_hasDesk M x0 x1 = some z) : MetS l G Y_X5_hasDesk [.inr (.inr x0), .inl x1] M (some (.int z)) M :=
  met_of (ls0 := [some (.inr (.inr x0)), some (.inl x1)]) (by decide) rfl (lv_in (m := 0) rfl) (sl_le (Nat.le_of_ble_eq_true rfl)) (by rw [h]; rfl) (Or.inl ⟨rfl, rfl⟩) (S_X5_hasDesk M x0 x1)
def f_X2_act_J51 (M : Mem) (x0 : Nat) (x1 : Int32) (x2 : Int32) (y0 : Int32) (y1 : Int32) : Option (Int32 × Mem) :=
  (if y0 = y1 then
    some ((0 : Int32), M)
  else
    (if x1 = (3 : Int32) then
      (ob M 2 x0).bind fun _ => (f_X2_readSlips M x0 x2).bind fun z3 =>
      (zr z3.1).bind fun w4 => some (w4, z3.2)
    else
      (gI M 2 x0 4).bind fun v6 =>
      (pI M 2 x0 4 (v6 ^^^ ((1 : Int32) <<< (x2 &&& 31)))).bind fun M7 =>
      some ((1 : Int32), M7)))
set_option maxRecDepth 20000 in
theorem J_X2_act_51 {l : Launch} {G : Gv} {lim : Nat × Nat} (M : Mem) (x0 : Nat) (x1 : Int32) (x2 : Int32) (y0 : Int32) (y1 : Int32)  : Sim l G Y_X2_act lim (f_X2_act_J51 M x0 x1 x2 y0 y1) (fun z => some (some (.int z.1), z.2)) 51 [some (.inr (.inr x0)), some (.inl x1), some (.inl x2), none] [.inl y1, .inl y0] M := by
  unfold f_X2_act_J51
  refine s_ic_ne (tgt := 56) (off := 5) (by decide +kernel) (by decide) (fun h1 => ?_) (fun h1 => ?_)
  · skip
    refine s_run (b := [(.iconst 0, 1)]) 55 [some (.inr (.inr x0)), some (.inl x1), some (.inl x2), none] [.inl (0 : Int32)] (by decide +kernel) rfl ?_
    exact s_bret (Or.inl rfl) (by decide +kernel) rfl
  · skip
    refine s_run (b := [(.iload_n 1, 1), (.iconst 3, 1)]) 58 [some (.inr (.inr x0)), some (.inl x1), some (.inl x2), none] [.inl (3 : Int32), .inl x1] (by decide +kernel) rfl ?_
    refine s_ic_ne (tgt := 67) (off := 9) (by decide +kernel) (by decide) (fun h2 => ?_) (fun h2 => ?_)
    · skip
      refine s_run (b := [(.aload_n 0, 1), (.iload_n 2, 1)]) 63 [some (.inr (.inr x0)), some (.inl x1), some (.inl x2), none] [.inl x2, .inr (.inr x0)] (by decide +kernel) rfl ?_
      refine s_cV (Z := Y_X2_readSlips) (c := 2) (vs := [.inl x2]) (st := []) (rO := fun z => some (.inl z.1)) (mO := fun z => z.2) zk_X2_readSlips zi_X2_readSlips q825 rfl ⟨by decide, by decide⟩ ⟨rfl, rfl⟩ rfl rfl (Nat.le_of_ble_eq_true rfl) (by decide +kernel) (fun z hz => c_X2_readSlips hz) (fun z3 => ?_)
      change Sim l G Y_X2_act lim _ _ 66 [some (.inr (.inr x0)), some (.inl x1), some (.inl x2), none] [.inl z3.1] z3.2
      exact s_zr (fun h5 => s_bret h5 (by decide +kernel) rfl)
    · skip
      refine s_run (b := [(.aload_n 0, 1), (.dup, 1)]) 69 [some (.inr (.inr x0)), some (.inl x1), some (.inl x2), none] [.inr (.inr x0), .inr (.inr x0)] (by decide +kernel) rfl ?_
      refine s_gI fl_2_39 rfl (by decide +kernel) (fun v6 => ?_)
      refine s_run (b := [(.iconst 1, 1), (.iload_n 2, 1), (.ishl, 1), (.ixor, 1)]) 76 [some (.inr (.inr x0)), some (.inl x1), some (.inl x2), none] [.inl (v6 ^^^ ((1 : Int32) <<< (x2 &&& 31))), .inr (.inr x0)] (by decide +kernel) rfl ?_
      refine s_pI fl_2_39 (Or.inl rfl) rfl (by decide +kernel) (fun M7 => ?_)
      refine s_run (b := [(.iconst 1, 1)]) 80 [some (.inr (.inr x0)), some (.inl x1), some (.inl x2), none] [.inl (1 : Int32)] (by decide +kernel) rfl ?_
      exact s_bret (Or.inr rfl) (by decide +kernel) rfl
def f_X2_act_J39 (M : Mem) (x0 : Nat) (x1 : Int32) (x2 : Int32) (y0 : Int32) : Option (Int32 × Mem) :=
  (if x1 = (2 : Int32) then
    f_X2_act_J51 M x0 x1 x2 y0 (1 : Int32)
  else
    f_X2_act_J51 M x0 x1 x2 y0 (0 : Int32))
set_option maxRecDepth 20000 in
theorem J_X2_act_39 {l : Launch} {G : Gv} {lim : Nat × Nat} (M : Mem) (x0 : Nat) (x1 : Int32) (x2 : Int32) (y0 : Int32)  : Sim l G Y_X2_act lim (f_X2_act_J39 M x0 x1 x2 y0) (fun z => some (some (.int z.1), z.2)) 39 [some (.inr (.inr x0)), some (.inl x1), some (.inl x2), none] [.inl y0] M := by
  unfold f_X2_act_J39
  refine s_run (b := [(.istore_n 3, 1), (.iload_n 3, 1), (.iload_n 1, 1), (.iconst 2, 1)]) 43 [some (.inr (.inr x0)), some (.inl x1), some (.inl x2), some (.inl y0)] [.inl (2 : Int32), .inl x1, .inl y0] (by decide +kernel) rfl ?_
  refine s_ic_ne (tgt := 50) (off := 7) (by decide +kernel) (by decide) (fun h1 => ?_) (fun h1 => ?_)
  · skip
    refine s_run (b := [(.iconst 1, 1), (.goto 4, 3)]) 51 [some (.inr (.inr x0)), some (.inl x1), some (.inl x2), some (.inl y0)] [.inl (1 : Int32), .inl y0] (by decide +kernel) rfl ?_
    exact s_lsub (ls' := [some (.inr (.inr x0)), some (.inl x1), some (.inl x2), none]) ⟨rfl, ⟨rfl, ⟨rfl, trivial⟩⟩⟩ (J_X2_act_51 M x0 x1 x2 y0 (1 : Int32))
  · skip
    refine s_run (b := [(.iconst 0, 1)]) 51 [some (.inr (.inr x0)), some (.inl x1), some (.inl x2), some (.inl y0)] [.inl (0 : Int32), .inl y0] (by decide +kernel) rfl ?_
    exact s_lsub (ls' := [some (.inr (.inr x0)), some (.inl x1), some (.inl x2), none]) ⟨rfl, ⟨rfl, ⟨rfl, trivial⟩⟩⟩ (J_X2_act_51 M x0 x1 x2 y0 (0 : Int32))
def f_X2_act (M : Mem) (x0 : Nat) (x1 : Int32) (x2 : Int32) : Option (Int32 × Mem) :=
  (if x1 = 0 then
    (ob M 2 x0).bind fun _ => (f_X2_ringCall M x0 x2).bind fun z2 =>
    (zr z2.1).bind fun w3 => some (w3, z2.2)
  else
    (gR M 2 x0 3).bind fun v5 =>
    (ob M 5 v5).bind fun _ => (f_X5_hasDesk M v5 x2).bind fun v6 =>
    (if v6 = 0 then
      some ((0 : Int32), M)
    else
      (gI M 2 x0 4).bind fun v8 =>
      (if ((v8 >>> (x2 &&& 31)) &&& (1 : Int32)) = 0 then
        f_X2_act_J39 M x0 x1 x2 (0 : Int32)
      else
        f_X2_act_J39 M x0 x1 x2 (1 : Int32))))
set_option maxRecDepth 20000 in
theorem S_X2_act {l : Launch} {G : Gv} {lim : Nat × Nat} (M : Mem) (x0 : Nat) (x1 : Int32) (x2 : Int32) : Sim l G Y_X2_act lim (f_X2_act M x0 x1 x2) (fun z => some (some (.int z.1), z.2)) 0 [some (.inr (.inr x0)), some (.inl x1), some (.inl x2), none] [] M := by
  unfold f_X2_act
  refine s_run (b := [(.iload_n 1, 1)]) 1 [some (.inr (.inr x0)), some (.inl x1), some (.inl x2), none] [.inl x1] (by decide +kernel) rfl ?_
  refine s_if_ne (tgt := 10) (off := 9) (by decide +kernel) (by decide) (fun h1 => ?_) (fun h1 => ?_)
  · skip
    refine s_run (b := [(.aload_n 0, 1), (.iload_n 2, 1)]) 6 [some (.inr (.inr x0)), some (.inl x1), some (.inl x2), none] [.inl x2, .inr (.inr x0)] (by decide +kernel) rfl ?_
    refine s_cV (Z := Y_X2_ringCall) (c := 2) (vs := [.inl x2]) (st := []) (rO := fun z => some (.inl z.1)) (mO := fun z => z.2) zk_X2_ringCall zi_X2_ringCall q773 rfl ⟨by decide, by decide⟩ ⟨rfl, rfl⟩ rfl rfl (Nat.le_of_ble_eq_true rfl) (by decide +kernel) (fun z hz => c_X2_ringCall hz) (fun z2 => ?_)
    change Sim l G Y_X2_act lim _ _ 9 [some (.inr (.inr x0)), some (.inl x1), some (.inl x2), none] [.inl z2.1] z2.2
    exact s_zr (fun h4 => s_bret h4 (by decide +kernel) rfl)
  · skip
    refine s_run (b := [(.aload_n 0, 1)]) 11 [some (.inr (.inr x0)), some (.inl x1), some (.inl x2), none] [.inr (.inr x0)] (by decide +kernel) rfl ?_
    refine s_gR fl_2_12 rfl (by decide +kernel) (fun v5 => ?_)
    refine s_run (b := [(.iload_n 2, 1)]) 15 [some (.inr (.inr x0)), some (.inl x1), some (.inl x2), none] [.inl x2, .inr (.inr v5)] (by decide +kernel) rfl ?_
    refine s_cV (Z := Y_X5_hasDesk) (c := 5) (vs := [.inl x2]) (st := []) (rO := fun z => some (.inl z)) (mO := fun _ => M) zk_X5_hasDesk zi_X5_hasDesk q824 rfl ⟨by decide, by decide⟩ ⟨rfl, rfl⟩ rfl rfl (Nat.le_of_ble_eq_true rfl) (by decide +kernel) (fun z hz => c_X5_hasDesk hz) (fun v6 => ?_)
    change Sim l G Y_X2_act lim _ _ 18 [some (.inr (.inr x0)), some (.inl x1), some (.inl x2), none] [.inl v6] M
    refine s_if_ne (tgt := 23) (off := 5) (by decide +kernel) (by decide) (fun h7 => ?_) (fun h7 => ?_)
    · skip
      refine s_run (b := [(.iconst 0, 1)]) 22 [some (.inr (.inr x0)), some (.inl x1), some (.inl x2), none] [.inl (0 : Int32)] (by decide +kernel) rfl ?_
      exact s_bret (Or.inl rfl) (by decide +kernel) rfl
    · skip
      refine s_run (b := [(.aload_n 0, 1)]) 24 [some (.inr (.inr x0)), some (.inl x1), some (.inl x2), none] [.inr (.inr x0)] (by decide +kernel) rfl ?_
      refine s_gI fl_2_39 rfl (by decide +kernel) (fun v8 => ?_)
      refine s_run (b := [(.iload_n 2, 1), (.ishr, 1), (.iconst 1, 1), (.iand, 1)]) 31 [some (.inr (.inr x0)), some (.inl x1), some (.inl x2), none] [.inl ((v8 >>> (x2 &&& 31)) &&& (1 : Int32))] (by decide +kernel) rfl ?_
      refine s_if_eq (tgt := 38) (off := 7) (by decide +kernel) (by decide) (fun h9 => ?_) (fun h9 => ?_)
      · skip
        refine s_run (b := [(.iconst 0, 1)]) 39 [some (.inr (.inr x0)), some (.inl x1), some (.inl x2), none] [.inl (0 : Int32)] (by decide +kernel) rfl ?_
        exact s_lsub (ls' := [some (.inr (.inr x0)), some (.inl x1), some (.inl x2), none]) ⟨rfl, ⟨rfl, ⟨rfl, trivial⟩⟩⟩ (J_X2_act_39 M x0 x1 x2 (0 : Int32))
      · skip
        refine s_run (b := [(.iconst 1, 1), (.goto 4, 3)]) 39 [some (.inr (.inr x0)), some (.inl x1), some (.inl x2), none] [.inl (1 : Int32)] (by decide +kernel) rfl ?_
        exact s_lsub (ls' := [some (.inr (.inr x0)), some (.inl x1), some (.inl x2), none]) ⟨rfl, ⟨rfl, ⟨rfl, trivial⟩⟩⟩ (J_X2_act_39 M x0 x1 x2 (1 : Int32))
set_option maxRecDepth 20000 in
theorem c_X2_act {l : Launch} {G : Gv} {M : Mem} {x0 : Nat} {x1 : Int32} {x2 : Int32} {z : Int32 × Mem} (h : f_X2_act M x0 x1 x2 = some z) : MetS l G Y_X2_act [.inr (.inr x0), .inl x1, .inl x2] M (some (.int z.1)) z.2 :=
  met_of (ls0 := [some (.inr (.inr x0)), some (.inl x1), some (.inl x2), none]) (by decide) rfl (lv_in (m := 1) rfl) (sl_le (Nat.le_of_ble_eq_true rfl)) (by rw [h]; rfl) (Or.inl ⟨rfl, rfl⟩) (S_X2_act M x0 x1 x2)
def f_X5_everybody (M : Mem) (x0 : Nat) : Option (Int32) :=
  (gI M 5 x0 0).bind fun v1 =>
  some (((1 : Int32) <<< (v1 &&& 31)) - (1 : Int32))
set_option maxRecDepth 20000 in
theorem S_X5_everybody {l : Launch} {G : Gv} {lim : Nat × Nat} (M : Mem) (x0 : Nat) : Sim l G Y_X5_everybody lim (f_X5_everybody M x0) (fun z => some (some (.int z), M)) 0 [some (.inr (.inr x0))] [] M := by
  unfold f_X5_everybody
  refine s_run (b := [(.iconst 1, 1), (.aload_n 0, 1)]) 2 [some (.inr (.inr x0))] [.inr (.inr x0), .inl (1 : Int32)] (by decide +kernel) rfl ?_
  refine s_gI fl_5_45 rfl (by decide +kernel) (fun v1 => ?_)
  refine s_run (b := [(.ishl, 1), (.iconst 1, 1), (.isub, 1)]) 8 [some (.inr (.inr x0))] [.inl (((1 : Int32) <<< (v1 &&& 31)) - (1 : Int32))] (by decide +kernel) rfl ?_
  exact s_iret (by decide +kernel) rfl
set_option maxRecDepth 20000 in
theorem c_X5_everybody {l : Launch} {G : Gv} {M : Mem} {x0 : Nat} {z : Int32} (h : f_X5_everybody M x0 = some z) : MetS l G Y_X5_everybody [.inr (.inr x0)] M (some (.int z)) M :=
  met_of (ls0 := [some (.inr (.inr x0))]) (by decide) rfl (lv_in (m := 0) rfl) (sl_le (Nat.le_of_ble_eq_true rfl)) (by rw [h]; rfl) (Or.inl ⟨rfl, rfl⟩) (S_X5_everybody M x0)
def f_X2_begin_B45 (M : Mem) (x0 : Nat) (x2 : Int32) : Option ((Int32 × Mem) ⊕ ((Mem))) :=
  (if (8 : Int32) ≤ x2 then
    some (.inr M)
  else
    (gR M 2 x0 9).bind fun v2 =>
    (sI M 0 v2 x2 (0 : Int32)).bind fun M3 =>
    (gR M3 2 x0 10).bind fun v4 =>
    (sI M3 0 v4 x2 (0 : Int32)).bind fun M5 =>
    (gR M5 2 x0 11).bind fun v6 =>
    (sI M5 0 v6 x2 (0 : Int32)).bind fun M7 =>
    some (.inl ((x2 + (1 : Int32)), M7)))
def f_X2_begin_L45 (M : Mem) (x0 : Nat) (x2 : Int32) : Option ((Mem)) := iter (fun s : Int32 × Mem => f_X2_begin_B45 s.2 x0 s.1) 1048576 (x2, M)
set_option maxRecDepth 20000 in
theorem B_X2_begin_45 {l : Launch} {G : Gv} {lim : Nat × Nat} (M : Mem) (x0 : Nat) (x2 : Int32) (K : (Int32 × Mem) ⊕ ((Mem)) → Option (Option Value × Mem)) (kk1 : ∀ (s2 : Int32) (s_ : Mem), SimR l G Y_X2_begin lim (K (.inl (s2, s_))) 45 [some (.inr (.inr x0)), none, some (.inl s2)] [] s_) (kk2_0 : ∀ (s_ : Mem), SimR l G Y_X2_begin lim (K (.inr s_)) 78 [none, none, none] [] s_) : Sim l G Y_X2_begin lim (f_X2_begin_B45 M x0 x2) K 45 [some (.inr (.inr x0)), none, some (.inl x2)] [] M := by
  unfold f_X2_begin_B45
  refine s_run (b := [(.iload_n 2, 1), (.bipush 8, 2)]) 48 [some (.inr (.inr x0)), none, some (.inl x2)] [.inl (8 : Int32), .inl x2] (by decide +kernel) rfl ?_
  refine s_ic_ge (tgt := 78) (off := 30) (by decide +kernel) (by decide) (fun h1 => ?_) (fun h1 => ?_)
  · skip
    exact s_lsub (ls' := [none, none, none]) trivial (kk2_0 M)
  · skip
    refine s_run (b := [(.aload_n 0, 1)]) 52 [some (.inr (.inr x0)), none, some (.inl x2)] [.inr (.inr x0)] (by decide +kernel) rfl ?_
    refine s_gR fl_2_18 rfl (by decide +kernel) (fun v2 => ?_)
    refine s_run (b := [(.iload_n 2, 1), (.iconst 0, 1)]) 57 [some (.inr (.inr x0)), none, some (.inl x2)] [.inl (0 : Int32), .inl x2, .inr (.inr v2)] (by decide +kernel) rfl ?_
    refine s_is (by decide +kernel) (fun M3 => ?_)
    refine s_run (b := [(.aload_n 0, 1)]) 59 [some (.inr (.inr x0)), none, some (.inl x2)] [.inr (.inr x0)] (by decide +kernel) rfl ?_
    refine s_gR fl_2_22 rfl (by decide +kernel) (fun v4 => ?_)
    refine s_run (b := [(.iload_n 2, 1), (.iconst 0, 1)]) 64 [some (.inr (.inr x0)), none, some (.inl x2)] [.inl (0 : Int32), .inl x2, .inr (.inr v4)] (by decide +kernel) rfl ?_
    refine s_is (by decide +kernel) (fun M5 => ?_)
    refine s_run (b := [(.aload_n 0, 1)]) 66 [some (.inr (.inr x0)), none, some (.inl x2)] [.inr (.inr x0)] (by decide +kernel) rfl ?_
    refine s_gR fl_2_25 rfl (by decide +kernel) (fun v6 => ?_)
    refine s_run (b := [(.iload_n 2, 1), (.iconst 0, 1)]) 71 [some (.inr (.inr x0)), none, some (.inl x2)] [.inl (0 : Int32), .inl x2, .inr (.inr v6)] (by decide +kernel) rfl ?_
    refine s_is (by decide +kernel) (fun M7 => ?_)
    refine s_run (b := [(.iinc 2 1, 3), (.goto (-30), 3)]) 45 [some (.inr (.inr x0)), none, some (.inl (x2 + (1 : Int32)))] [] (by decide +kernel) rfl ?_
    exact s_lsub (ls' := [some (.inr (.inr x0)), none, some (.inl (x2 + (1 : Int32)))]) ⟨rfl, ⟨rfl, trivial⟩⟩ (kk1 (x2 + (1 : Int32)) M7)
set_option maxRecDepth 20000 in
theorem L_X2_begin_45 {l : Launch} {G : Gv} {lim : Nat × Nat} (M : Mem) (x0 : Nat) (x2 : Int32) (K : ((Mem)) → Option (Option Value × Mem)) (kk2_0 : ∀ r : Mem, SimR l G Y_X2_begin lim (K r) 78 [none, none, none] [] r) : Sim l G Y_X2_begin lim (f_X2_begin_L45 M x0 x2) K 45 [some (.inr (.inr x0)), none, some (.inl x2)] [] M :=
  s_iter (f := fun s : Int32 × Mem => f_X2_begin_B45 s.2 x0 s.1) (hd := 45) (cl := fun s => [some (.inr (.inr x0)), none, some (.inl s.1)]) (cm := fun s => s.2) (xp := fun _ => 78) (xl := fun r => [none, none, none]) (xm := fun r => r) (fun s K h1 h2 => B_X2_begin_45 s.2 x0 s.1 K (fun a2 a_ => h1 (a2, a_)) (fun a_ => h2 a_)) 1048576 (x2, M) K kk2_0
def f_X2_begin (M : Mem) (x0 : Nat) (x1 : Nat) : Option (Mem) :=
  (pR M 2 x0 3 x1).bind fun M1 =>
  (ob M1 5 x1).bind fun _ => (f_X5_everybody M1 x1).bind fun v2 =>
  (pI M1 2 x0 4 v2).bind fun M3 =>
  (pI M3 2 x0 0 (0 : Int32)).bind fun M4 =>
  (pI M4 2 x0 5 (0 : Int32)).bind fun M5 =>
  (pI M5 2 x0 6 (0 : Int32)).bind fun M6 =>
  (pI M6 2 x0 1 (0 : Int32)).bind fun M7 =>
  (pI M7 2 x0 2 (0 : Int32)).bind fun M8 =>
  (pI M8 2 x0 7 (0 : Int32)).bind fun M9 =>
  (f_X2_begin_L45 M9 x0 (0 : Int32)).bind fun r10 =>
  some r10
set_option maxRecDepth 20000 in
theorem S_X2_begin {l : Launch} {G : Gv} {lim : Nat × Nat} (M : Mem) (x0 : Nat) (x1 : Nat) : Sim l G Y_X2_begin lim (f_X2_begin M x0 x1) (fun z => some (none, z)) 0 [some (.inr (.inr x0)), some (.inr (.inr x1)), none] [] M := by
  unfold f_X2_begin
  refine s_run (b := [(.aload_n 0, 1), (.aload_n 1, 1)]) 2 [some (.inr (.inr x0)), some (.inr (.inr x1)), none] [.inr (.inr x1), .inr (.inr x0)] (by decide +kernel) rfl ?_
  refine s_pR fl_2_12 (Or.inl ⟨_, rfl⟩) (Or.inl rfl) rfl (by decide +kernel) (fun M1 => ?_)
  refine s_run (b := [(.aload_n 0, 1), (.aload_n 1, 1)]) 7 [some (.inr (.inr x0)), some (.inr (.inr x1)), none] [.inr (.inr x1), .inr (.inr x0)] (by decide +kernel) rfl ?_
  refine s_cV (Z := Y_X5_everybody) (c := 5) (vs := []) (st := [.inr (.inr x0)]) (rO := fun z => some (.inl z)) (mO := fun _ => M1) zk_X5_everybody zi_X5_everybody q764 rfl ⟨by decide, by decide⟩ ⟨rfl, rfl⟩ rfl rfl (Nat.le_of_ble_eq_true rfl) (by decide +kernel) (fun z hz => c_X5_everybody hz) (fun v2 => ?_)
  change Sim l G Y_X2_begin lim _ _ 10 [some (.inr (.inr x0)), some (.inr (.inr x1)), none] [.inl v2, .inr (.inr x0)] M1
  refine s_pI fl_2_39 (Or.inl rfl) rfl (by decide +kernel) (fun M3 => ?_)
  refine s_run (b := [(.aload_n 0, 1), (.iconst 0, 1)]) 15 [some (.inr (.inr x0)), some (.inr (.inr x1)), none] [.inl (0 : Int32), .inr (.inr x0)] (by decide +kernel) rfl ?_
  refine s_pI fl_2_43 (Or.inl rfl) rfl (by decide +kernel) (fun M4 => ?_)
  refine s_run (b := [(.aload_n 0, 1), (.iconst 0, 1)]) 20 [some (.inr (.inr x0)), some (.inr (.inr x1)), none] [.inl (0 : Int32), .inr (.inr x0)] (by decide +kernel) rfl ?_
  refine s_pI fl_2_46 (Or.inl rfl) rfl (by decide +kernel) (fun M5 => ?_)
  refine s_run (b := [(.aload_n 0, 1), (.iconst 0, 1)]) 25 [some (.inr (.inr x0)), some (.inr (.inr x1)), none] [.inl (0 : Int32), .inr (.inr x0)] (by decide +kernel) rfl ?_
  refine s_pI fl_2_49 (Or.inl rfl) rfl (by decide +kernel) (fun M6 => ?_)
  refine s_run (b := [(.aload_n 0, 1), (.iconst 0, 1)]) 30 [some (.inr (.inr x0)), some (.inr (.inr x1)), none] [.inl (0 : Int32), .inr (.inr x0)] (by decide +kernel) rfl ?_
  refine s_pI fl_2_52 (Or.inl rfl) rfl (by decide +kernel) (fun M7 => ?_)
  refine s_run (b := [(.aload_n 0, 1), (.iconst 0, 1)]) 35 [some (.inr (.inr x0)), some (.inr (.inr x1)), none] [.inl (0 : Int32), .inr (.inr x0)] (by decide +kernel) rfl ?_
  refine s_pI fl_2_55 (Or.inl rfl) rfl (by decide +kernel) (fun M8 => ?_)
  refine s_run (b := [(.aload_n 0, 1), (.iconst 0, 1)]) 40 [some (.inr (.inr x0)), some (.inr (.inr x1)), none] [.inl (0 : Int32), .inr (.inr x0)] (by decide +kernel) rfl ?_
  refine s_pI fl_2_58 (Or.inl rfl) rfl (by decide +kernel) (fun M9 => ?_)
  refine s_run (b := [(.iconst 0, 1), (.istore_n 2, 1)]) 45 [some (.inr (.inr x0)), some (.inr (.inr x1)), some (.inl (0 : Int32))] [] (by decide +kernel) rfl ?_
  refine s_lsub (ls' := [some (.inr (.inr x0)), none, some (.inl (0 : Int32))]) ⟨rfl, ⟨rfl, trivial⟩⟩ ?_
  refine sim_bind (L_X2_begin_45 M9 x0 (0 : Int32) _ (fun r10 => ?_))
  change Sim l G Y_X2_begin lim _ _ 78 [none, none, none] [] r10
  exact s_vret (by decide +kernel) rfl
set_option maxRecDepth 20000 in
theorem c_X2_begin {l : Launch} {G : Gv} {M : Mem} {x0 : Nat} {x1 : Nat} {z : Mem} (h : f_X2_begin M x0 x1 = some z) : MetS l G Y_X2_begin [.inr (.inr x0), .inr (.inr x1)] M none z :=
  met_of (ls0 := [some (.inr (.inr x0)), some (.inr (.inr x1)), none]) (by decide) rfl (lv_in (m := 1) rfl) (sl_le (Nat.le_of_ble_eq_true rfl)) (by rw [h]; rfl) (Or.inl ⟨rfl, rfl⟩) (S_X2_begin M x0 x1)
def f_X2_halfOf_B13 (M : Mem) (x0 : Nat) (x2 : Nat) (x3 : Int32) (x4 : Int32) : Option ((Int32 × Mem) ⊕ ((Int32 × Mem) ⊕ (Mem))) :=
  (gI M 1 x2 0).bind fun v1 =>
  (if v1 ≤ x4 then
    some (.inr (.inr M))
  else
    (gI M 2 x0 1).bind fun v3 =>
    (if x3 ≤ ((2 : Int32) * v3) then
      some (.inr (.inl (x4, M)))
    else
      (gR M 1 x2 1).bind fun v5 =>
      (aI M 0 v5 x4).bind fun v6 =>
      (gR M 1 x2 2).bind fun v7 =>
      (aI M 0 v7 x4).bind fun v8 =>
      (ob M 2 x0).bind fun _ => (f_X2_act M x0 v6 v8).bind fun z9 =>
      (if z9.1 = 0 then
        some (.inr (.inl (x4, z9.2)))
      else
        some (.inl ((x4 + (1 : Int32)), z9.2)))))
def f_X2_halfOf_L13 (M : Mem) (x0 : Nat) (x2 : Nat) (x3 : Int32) (x4 : Int32) : Option ((Int32 × Mem) ⊕ (Mem)) := iter (fun s : Int32 × Mem => f_X2_halfOf_B13 s.2 x0 x2 x3 s.1) 1048576 (x4, M)
set_option maxRecDepth 20000 in
theorem B_X2_halfOf_13 {l : Launch} {G : Gv} {lim : Nat × Nat} (M : Mem) (x0 : Nat) (x2 : Nat) (x3 : Int32) (x4 : Int32) (K : (Int32 × Mem) ⊕ ((Int32 × Mem) ⊕ (Mem)) → Option (Option Value × Mem)) (kk1 : ∀ (s4 : Int32) (s_ : Mem), SimR l G Y_X2_halfOf lim (K (.inl (s4, s_))) 13 [some (.inr (.inr x0)), none, some (.inr (.inr x2)), some (.inl x3), some (.inl s4)] [] s_) (kk2_0 : ∀ (s4 : Int32) (s_ : Mem), SimR l G Y_X2_halfOf lim (K (.inr (.inl (s4, s_)))) 53 [none, none, none, none, some (.inl s4)] [] s_) (kk2_1 : ∀ (s_ : Mem), SimR l G Y_X2_halfOf lim (K (.inr (.inr s_))) 62 [none, none, some (.inr (.inr x2)), none, none] [] s_) : Sim l G Y_X2_halfOf lim (f_X2_halfOf_B13 M x0 x2 x3 x4) K 13 [some (.inr (.inr x0)), none, some (.inr (.inr x2)), some (.inl x3), some (.inl x4)] [] M := by
  unfold f_X2_halfOf_B13
  refine s_run (b := [(.iload 4, 2), (.aload_n 2, 1)]) 16 [some (.inr (.inr x0)), none, some (.inr (.inr x2)), some (.inl x3), some (.inl x4)] [.inr (.inr x2), .inl x4] (by decide +kernel) rfl ?_
  refine s_gI fl_2_65 rfl (by decide +kernel) (fun v1 => ?_)
  refine s_ic_ge (tgt := 62) (off := 43) (by decide +kernel) (by decide) (fun h2 => ?_) (fun h2 => ?_)
  · skip
    exact s_lsub (ls' := [none, none, some (.inr (.inr x2)), none, none]) ⟨rfl, trivial⟩ (kk2_1 M)
  · skip
    refine s_run (b := [(.iconst 2, 1), (.aload_n 0, 1)]) 24 [some (.inr (.inr x0)), none, some (.inr (.inr x2)), some (.inl x3), some (.inl x4)] [.inr (.inr x0), .inl (2 : Int32)] (by decide +kernel) rfl ?_
    refine s_gI fl_2_52 rfl (by decide +kernel) (fun v3 => ?_)
    refine s_run (b := [(.imul, 1), (.iload_n 3, 1)]) 29 [some (.inr (.inr x0)), none, some (.inr (.inr x2)), some (.inl x3), some (.inl x4)] [.inl x3, .inl ((2 : Int32) * v3)] (by decide +kernel) rfl ?_
    refine s_ic_ge (tgt := 53) (off := 24) (by decide +kernel) (by decide) (fun h4 => ?_) (fun h4 => ?_)
    · skip
      exact s_lsub (ls' := [none, none, none, none, some (.inl x4)]) ⟨rfl, trivial⟩ (kk2_0 x4 M)
    · skip
      refine s_run (b := [(.aload_n 0, 1), (.aload_n 2, 1)]) 34 [some (.inr (.inr x0)), none, some (.inr (.inr x2)), some (.inl x3), some (.inl x4)] [.inr (.inr x2), .inr (.inr x0)] (by decide +kernel) rfl ?_
      refine s_gR fl_2_76 rfl (by decide +kernel) (fun v5 => ?_)
      refine s_run (b := [(.iload 4, 2)]) 39 [some (.inr (.inr x0)), none, some (.inr (.inr x2)), some (.inl x3), some (.inl x4)] [.inl x4, .inr (.inr v5), .inr (.inr x0)] (by decide +kernel) rfl ?_
      refine s_ia (by decide +kernel) (fun v6 => ?_)
      refine s_run (b := [(.aload_n 2, 1)]) 41 [some (.inr (.inr x0)), none, some (.inr (.inr x2)), some (.inl x3), some (.inl x4)] [.inr (.inr x2), .inl v6, .inr (.inr x0)] (by decide +kernel) rfl ?_
      refine s_gR fl_2_79 rfl (by decide +kernel) (fun v7 => ?_)
      refine s_run (b := [(.iload 4, 2)]) 46 [some (.inr (.inr x0)), none, some (.inr (.inr x2)), some (.inl x3), some (.inl x4)] [.inl x4, .inr (.inr v7), .inl v6, .inr (.inr x0)] (by decide +kernel) rfl ?_
      refine s_ia (by decide +kernel) (fun v8 => ?_)
      refine s_cV (Z := Y_X2_act) (c := 2) (vs := [.inl v6, .inl v8]) (st := []) (rO := fun z => some (.inl z.1)) (mO := fun z => z.2) zk_X2_act zi_X2_act q769 rfl ⟨by decide, by decide⟩ ⟨rfl, rfl⟩ rfl rfl (Nat.le_of_ble_eq_true rfl) (by decide +kernel) (fun z hz => c_X2_act hz) (fun z9 => ?_)
      change Sim l G Y_X2_halfOf lim _ _ 50 [some (.inr (.inr x0)), none, some (.inr (.inr x2)), some (.inl x3), some (.inl x4)] [.inl z9.1] z9.2
      refine s_if_ne (tgt := 56) (off := 6) (by decide +kernel) (by decide) (fun h10 => ?_) (fun h10 => ?_)
      · skip
        exact s_lsub (ls' := [none, none, none, none, some (.inl x4)]) ⟨rfl, trivial⟩ (kk2_0 x4 z9.2)
      · skip
        refine s_run (b := [(.iinc 4 1, 3), (.goto (-46), 3)]) 13 [some (.inr (.inr x0)), none, some (.inr (.inr x2)), some (.inl x3), some (.inl (x4 + (1 : Int32)))] [] (by decide +kernel) rfl ?_
        exact s_lsub (ls' := [some (.inr (.inr x0)), none, some (.inr (.inr x2)), some (.inl x3), some (.inl (x4 + (1 : Int32)))]) ⟨rfl, ⟨rfl, ⟨rfl, ⟨rfl, trivial⟩⟩⟩⟩ (kk1 (x4 + (1 : Int32)) z9.2)
set_option maxRecDepth 20000 in
theorem L_X2_halfOf_13 {l : Launch} {G : Gv} {lim : Nat × Nat} (M : Mem) (x0 : Nat) (x2 : Nat) (x3 : Int32) (x4 : Int32) (K : ((Int32 × Mem) ⊕ (Mem)) → Option (Option Value × Mem)) (kk2_0 : ∀ r : Int32 × Mem, SimR l G Y_X2_halfOf lim (K (.inl r)) 53 [none, none, none, none, some (.inl r.1)] [] r.2) (kk2_1 : ∀ r : Mem, SimR l G Y_X2_halfOf lim (K (.inr r)) 62 [none, none, some (.inr (.inr x2)), none, none] [] r) : Sim l G Y_X2_halfOf lim (f_X2_halfOf_L13 M x0 x2 x3 x4) K 13 [some (.inr (.inr x0)), none, some (.inr (.inr x2)), some (.inl x3), some (.inl x4)] [] M :=
  s_iter (f := fun s : Int32 × Mem => f_X2_halfOf_B13 s.2 x0 x2 x3 s.1) (hd := 13) (cl := fun s => [some (.inr (.inr x0)), none, some (.inr (.inr x2)), some (.inl x3), some (.inl s.1)]) (cm := fun s => s.2) (xp := (fun r => match r with | .inl r => 53 | .inr r => 62)) (xl := (fun r => match r with | .inl r => [none, none, none, none, some (.inl r.1)] | .inr r => [none, none, some (.inr (.inr x2)), none, none])) (xm := (fun r => match r with | .inl r => r.2 | .inr r => r)) (fun s K h1 h2 => B_X2_halfOf_13 s.2 x0 x2 x3 s.1 K (fun a4 a_ => h1 (a4, a_)) (fun a4 a_ => h2 (.inl (a4, a_))) (fun a_ => h2 (.inr a_))) 1048576 (x4, M) K (fun r => by
    rcases r with r | r
    · exact kk2_0 r
    · exact kk2_1 r)
def f_X2_halfOf (M : Mem) (x0 : Nat) (x1 : Nat) (x2 : Nat) : Option (Int32 × Mem) :=
  (gI M 2 x0 1).bind fun v1 =>
  (ob M 2 x0).bind fun _ => (f_X2_begin M x0 x1).bind fun z2 =>
  ((f_X2_halfOf_L13 z2 x0 x2 v1 (0 : Int32)).bind fun r3 => match r3 with
  | .inl r3 => some (r3.1, r3.2)
  | .inr r3 => (gI r3 1 x2 0).bind fun v4 =>
    some (v4, r3))
set_option maxRecDepth 20000 in
theorem S_X2_halfOf {l : Launch} {G : Gv} {lim : Nat × Nat} (M : Mem) (x0 : Nat) (x1 : Nat) (x2 : Nat) : Sim l G Y_X2_halfOf lim (f_X2_halfOf M x0 x1 x2) (fun z => some (some (.int z.1), z.2)) 0 [some (.inr (.inr x0)), some (.inr (.inr x1)), some (.inr (.inr x2)), none, none] [] M := by
  unfold f_X2_halfOf
  refine s_run (b := [(.aload_n 0, 1)]) 1 [some (.inr (.inr x0)), some (.inr (.inr x1)), some (.inr (.inr x2)), none, none] [.inr (.inr x0)] (by decide +kernel) rfl ?_
  refine s_gI fl_2_52 rfl (by decide +kernel) (fun v1 => ?_)
  refine s_run (b := [(.istore_n 3, 1), (.aload_n 0, 1), (.aload_n 1, 1)]) 7 [some (.inr (.inr x0)), some (.inr (.inr x1)), some (.inr (.inr x2)), some (.inl v1), none] [.inr (.inr x1), .inr (.inr x0)] (by decide +kernel) rfl ?_
  refine s_cV (Z := Y_X2_begin) (c := 2) (vs := [.inr (.inr x1)]) (st := []) (rO := fun _ => none) (mO := fun z => z) zk_X2_begin zi_X2_begin q760 rfl ⟨by decide, by decide⟩ ⟨rfl, rfl⟩ rfl rfl (Nat.le_of_ble_eq_true rfl) (by decide +kernel) (fun z hz => c_X2_begin hz) (fun z2 => ?_)
  change Sim l G Y_X2_halfOf lim _ _ 10 [some (.inr (.inr x0)), some (.inr (.inr x1)), some (.inr (.inr x2)), some (.inl v1), none] [] z2
  refine s_run (b := [(.iconst 0, 1), (.istore 4, 2)]) 13 [some (.inr (.inr x0)), some (.inr (.inr x1)), some (.inr (.inr x2)), some (.inl v1), some (.inl (0 : Int32))] [] (by decide +kernel) rfl ?_
  refine s_lsub (ls' := [some (.inr (.inr x0)), none, some (.inr (.inr x2)), some (.inl v1), some (.inl (0 : Int32))]) ⟨rfl, ⟨rfl, ⟨rfl, ⟨rfl, trivial⟩⟩⟩⟩ ?_
  refine sim_bind (L_X2_halfOf_13 z2 x0 x2 v1 (0 : Int32) _ (fun r3 => ?_) (fun r3 => ?_))
  · change Sim l G Y_X2_halfOf lim _ _ 53 [none, none, none, none, some (.inl r3.1)] [] r3.2
    refine s_run (b := [(.iload 4, 2)]) 55 [none, none, none, none, some (.inl r3.1)] [.inl r3.1] (by decide +kernel) rfl ?_
    exact s_iret (by decide +kernel) rfl
  · change Sim l G Y_X2_halfOf lim _ _ 62 [none, none, some (.inr (.inr x2)), none, none] [] r3
    refine s_run (b := [(.aload_n 2, 1)]) 63 [none, none, some (.inr (.inr x2)), none, none] [.inr (.inr x2)] (by decide +kernel) rfl ?_
    refine s_gI fl_2_65 rfl (by decide +kernel) (fun v4 => ?_)
    exact s_iret (by decide +kernel) rfl
set_option maxRecDepth 20000 in
theorem c_X2_halfOf {l : Launch} {G : Gv} {M : Mem} {x0 : Nat} {x1 : Nat} {x2 : Nat} {z : Int32 × Mem} (h : f_X2_halfOf M x0 x1 x2 = some z) : MetS l G Y_X2_halfOf [.inr (.inr x0), .inr (.inr x1), .inr (.inr x2)] M (some (.int z.1)) z.2 :=
  met_of (ls0 := [some (.inr (.inr x0)), some (.inr (.inr x1)), some (.inr (.inr x2)), none, none]) (by decide) rfl (lv_in (m := 2) rfl) (sl_le (Nat.le_of_ble_eq_true rfl)) (by rw [h]; rfl) (Or.inl ⟨rfl, rfl⟩) (S_X2_halfOf M x0 x1 x2)
def f_X2_playDay_B18 (M : Mem) (x0 : Nat) (x2 : Nat) (x4 : Int32) (x5 : Int32) : Option ((Int32 × Mem) ⊕ ((Int32 × Mem) ⊕ (Mem))) :=
  (if x4 ≤ x5 then
    some (.inr (.inr M))
  else
    (gR M 1 x2 1).bind fun v2 =>
    (aI M 0 v2 x5).bind fun v3 =>
    (gR M 1 x2 2).bind fun v4 =>
    (aI M 0 v4 x5).bind fun v5 =>
    (ob M 2 x0).bind fun _ => (f_X2_act M x0 v3 v5).bind fun z6 =>
    (if z6.1 = 0 then
      some (.inr (.inl (x5, z6.2)))
    else
      some (.inl ((x5 + (1 : Int32)), z6.2))))
def f_X2_playDay_L18 (M : Mem) (x0 : Nat) (x2 : Nat) (x4 : Int32) (x5 : Int32) : Option ((Int32 × Mem) ⊕ (Mem)) := iter (fun s : Int32 × Mem => f_X2_playDay_B18 s.2 x0 x2 x4 s.1) 1048576 (x5, M)
set_option maxRecDepth 20000 in
theorem B_X2_playDay_18 {l : Launch} {G : Gv} {lim : Nat × Nat} (M : Mem) (x0 : Nat) (x2 : Nat) (x4 : Int32) (x5 : Int32) (K : (Int32 × Mem) ⊕ ((Int32 × Mem) ⊕ (Mem)) → Option (Option Value × Mem)) (kk1 : ∀ (s5 : Int32) (s_ : Mem), SimR l G Y_X2_playDay lim (K (.inl (s5, s_))) 18 [some (.inr (.inr x0)), none, some (.inr (.inr x2)), none, some (.inl x4), some (.inl s5)] [] s_) (kk2_0 : ∀ (s5 : Int32) (s_ : Mem), SimR l G Y_X2_playDay lim (K (.inr (.inl (s5, s_)))) 46 [none, none, none, none, none, some (.inl s5)] [] s_) (kk2_1 : ∀ (s_ : Mem), SimR l G Y_X2_playDay lim (K (.inr (.inr s_))) 55 [none, none, none, none, some (.inl x4), none] [] s_) : Sim l G Y_X2_playDay lim (f_X2_playDay_B18 M x0 x2 x4 x5) K 18 [some (.inr (.inr x0)), none, some (.inr (.inr x2)), none, some (.inl x4), some (.inl x5)] [] M := by
  unfold f_X2_playDay_B18
  refine s_run (b := [(.iload 5, 2), (.iload 4, 2)]) 22 [some (.inr (.inr x0)), none, some (.inr (.inr x2)), none, some (.inl x4), some (.inl x5)] [.inl x4, .inl x5] (by decide +kernel) rfl ?_
  refine s_ic_ge (tgt := 55) (off := 33) (by decide +kernel) (by decide) (fun h1 => ?_) (fun h1 => ?_)
  · skip
    exact s_lsub (ls' := [none, none, none, none, some (.inl x4), none]) ⟨rfl, trivial⟩ (kk2_1 M)
  · skip
    refine s_run (b := [(.aload_n 0, 1), (.aload_n 2, 1)]) 27 [some (.inr (.inr x0)), none, some (.inr (.inr x2)), none, some (.inl x4), some (.inl x5)] [.inr (.inr x2), .inr (.inr x0)] (by decide +kernel) rfl ?_
    refine s_gR fl_2_76 rfl (by decide +kernel) (fun v2 => ?_)
    refine s_run (b := [(.iload 5, 2)]) 32 [some (.inr (.inr x0)), none, some (.inr (.inr x2)), none, some (.inl x4), some (.inl x5)] [.inl x5, .inr (.inr v2), .inr (.inr x0)] (by decide +kernel) rfl ?_
    refine s_ia (by decide +kernel) (fun v3 => ?_)
    refine s_run (b := [(.aload_n 2, 1)]) 34 [some (.inr (.inr x0)), none, some (.inr (.inr x2)), none, some (.inl x4), some (.inl x5)] [.inr (.inr x2), .inl v3, .inr (.inr x0)] (by decide +kernel) rfl ?_
    refine s_gR fl_2_79 rfl (by decide +kernel) (fun v4 => ?_)
    refine s_run (b := [(.iload 5, 2)]) 39 [some (.inr (.inr x0)), none, some (.inr (.inr x2)), none, some (.inl x4), some (.inl x5)] [.inl x5, .inr (.inr v4), .inl v3, .inr (.inr x0)] (by decide +kernel) rfl ?_
    refine s_ia (by decide +kernel) (fun v5 => ?_)
    refine s_cV (Z := Y_X2_act) (c := 2) (vs := [.inl v3, .inl v5]) (st := []) (rO := fun z => some (.inl z.1)) (mO := fun z => z.2) zk_X2_act zi_X2_act q769 rfl ⟨by decide, by decide⟩ ⟨rfl, rfl⟩ rfl rfl (Nat.le_of_ble_eq_true rfl) (by decide +kernel) (fun z hz => c_X2_act hz) (fun z6 => ?_)
    change Sim l G Y_X2_playDay lim _ _ 43 [some (.inr (.inr x0)), none, some (.inr (.inr x2)), none, some (.inl x4), some (.inl x5)] [.inl z6.1] z6.2
    refine s_if_ne (tgt := 49) (off := 6) (by decide +kernel) (by decide) (fun h7 => ?_) (fun h7 => ?_)
    · skip
      exact s_lsub (ls' := [none, none, none, none, none, some (.inl x5)]) ⟨rfl, trivial⟩ (kk2_0 x5 z6.2)
    · skip
      refine s_run (b := [(.iinc 5 1, 3), (.goto (-34), 3)]) 18 [some (.inr (.inr x0)), none, some (.inr (.inr x2)), none, some (.inl x4), some (.inl (x5 + (1 : Int32)))] [] (by decide +kernel) rfl ?_
      exact s_lsub (ls' := [some (.inr (.inr x0)), none, some (.inr (.inr x2)), none, some (.inl x4), some (.inl (x5 + (1 : Int32)))]) ⟨rfl, ⟨rfl, ⟨rfl, ⟨rfl, trivial⟩⟩⟩⟩ (kk1 (x5 + (1 : Int32)) z6.2)
set_option maxRecDepth 20000 in
theorem L_X2_playDay_18 {l : Launch} {G : Gv} {lim : Nat × Nat} (M : Mem) (x0 : Nat) (x2 : Nat) (x4 : Int32) (x5 : Int32) (K : ((Int32 × Mem) ⊕ (Mem)) → Option (Option Value × Mem)) (kk2_0 : ∀ r : Int32 × Mem, SimR l G Y_X2_playDay lim (K (.inl r)) 46 [none, none, none, none, none, some (.inl r.1)] [] r.2) (kk2_1 : ∀ r : Mem, SimR l G Y_X2_playDay lim (K (.inr r)) 55 [none, none, none, none, some (.inl x4), none] [] r) : Sim l G Y_X2_playDay lim (f_X2_playDay_L18 M x0 x2 x4 x5) K 18 [some (.inr (.inr x0)), none, some (.inr (.inr x2)), none, some (.inl x4), some (.inl x5)] [] M :=
  s_iter (f := fun s : Int32 × Mem => f_X2_playDay_B18 s.2 x0 x2 x4 s.1) (hd := 18) (cl := fun s => [some (.inr (.inr x0)), none, some (.inr (.inr x2)), none, some (.inl x4), some (.inl s.1)]) (cm := fun s => s.2) (xp := (fun r => match r with | .inl r => 46 | .inr r => 55)) (xl := (fun r => match r with | .inl r => [none, none, none, none, none, some (.inl r.1)] | .inr r => [none, none, none, none, some (.inl x4), none])) (xm := (fun r => match r with | .inl r => r.2 | .inr r => r)) (fun s K h1 h2 => B_X2_playDay_18 s.2 x0 x2 x4 s.1 K (fun a5 a_ => h1 (a5, a_)) (fun a5 a_ => h2 (.inl (a5, a_))) (fun a_ => h2 (.inr a_))) 1048576 (x5, M) K (fun r => by
    rcases r with r | r
    · exact kk2_0 r
    · exact kk2_1 r)
def f_X2_playDay (M : Mem) (x0 : Nat) (x1 : Nat) (x2 : Nat) (x3 : Int32) : Option (Int32 × Mem) :=
  (ob M 2 x0).bind fun _ => (f_X2_begin M x0 x1).bind fun z1 =>
  (gI z1 1 x2 0).bind fun v2 =>
  ((f_X2_playDay_L18 z1 x0 x2 (imin x3 v2) (0 : Int32)).bind fun r3 => match r3 with
  | .inl r3 => some (r3.1, r3.2)
  | .inr r3 => some ((imin x3 v2), r3))
set_option maxRecDepth 20000 in
theorem S_X2_playDay {l : Launch} {G : Gv} {lim : Nat × Nat} (M : Mem) (x0 : Nat) (x1 : Nat) (x2 : Nat) (x3 : Int32) : Sim l G Y_X2_playDay lim (f_X2_playDay M x0 x1 x2 x3) (fun z => some (some (.int z.1), z.2)) 0 [some (.inr (.inr x0)), some (.inr (.inr x1)), some (.inr (.inr x2)), some (.inl x3), none, none] [] M := by
  unfold f_X2_playDay
  refine s_run (b := [(.aload_n 0, 1), (.aload_n 1, 1)]) 2 [some (.inr (.inr x0)), some (.inr (.inr x1)), some (.inr (.inr x2)), some (.inl x3), none, none] [.inr (.inr x1), .inr (.inr x0)] (by decide +kernel) rfl ?_
  refine s_cV (Z := Y_X2_begin) (c := 2) (vs := [.inr (.inr x1)]) (st := []) (rO := fun _ => none) (mO := fun z => z) zk_X2_begin zi_X2_begin q760 rfl ⟨by decide, by decide⟩ ⟨rfl, rfl⟩ rfl rfl (Nat.le_of_ble_eq_true rfl) (by decide +kernel) (fun z hz => c_X2_begin hz) (fun z1 => ?_)
  change Sim l G Y_X2_playDay lim _ _ 5 [some (.inr (.inr x0)), some (.inr (.inr x1)), some (.inr (.inr x2)), some (.inl x3), none, none] [] z1
  refine s_run (b := [(.iload_n 3, 1), (.aload_n 2, 1)]) 7 [some (.inr (.inr x0)), some (.inr (.inr x1)), some (.inr (.inr x2)), some (.inl x3), none, none] [.inr (.inr x2), .inl x3] (by decide +kernel) rfl ?_
  refine s_gI fl_2_65 rfl (by decide +kernel) (fun v2 => ?_)
  refine s_imin q768 ⟨Nat.le_of_ble_eq_true rfl, Nat.le_of_ble_eq_true rfl⟩ (by decide +kernel) ?_
  change Sim l G Y_X2_playDay lim _ _ 13 [some (.inr (.inr x0)), some (.inr (.inr x1)), some (.inr (.inr x2)), some (.inl x3), none, none] [.inl (imin x3 v2)] z1
  refine s_run (b := [(.istore 4, 2), (.iconst 0, 1), (.istore 5, 2)]) 18 [some (.inr (.inr x0)), some (.inr (.inr x1)), some (.inr (.inr x2)), some (.inl x3), some (.inl (imin x3 v2)), some (.inl (0 : Int32))] [] (by decide +kernel) rfl ?_
  refine s_lsub (ls' := [some (.inr (.inr x0)), none, some (.inr (.inr x2)), none, some (.inl (imin x3 v2)), some (.inl (0 : Int32))]) ⟨rfl, ⟨rfl, ⟨rfl, ⟨rfl, trivial⟩⟩⟩⟩ ?_
  refine sim_bind (L_X2_playDay_18 z1 x0 x2 (imin x3 v2) (0 : Int32) _ (fun r3 => ?_) (fun r3 => ?_))
  · change Sim l G Y_X2_playDay lim _ _ 46 [none, none, none, none, none, some (.inl r3.1)] [] r3.2
    refine s_run (b := [(.iload 5, 2)]) 48 [none, none, none, none, none, some (.inl r3.1)] [.inl r3.1] (by decide +kernel) rfl ?_
    exact s_iret (by decide +kernel) rfl
  · change Sim l G Y_X2_playDay lim _ _ 55 [none, none, none, none, some (.inl (imin x3 v2)), none] [] r3
    refine s_run (b := [(.iload 4, 2)]) 57 [none, none, none, none, some (.inl (imin x3 v2)), none] [.inl (imin x3 v2)] (by decide +kernel) rfl ?_
    exact s_iret (by decide +kernel) rfl
set_option maxRecDepth 20000 in
theorem c_X2_playDay {l : Launch} {G : Gv} {M : Mem} {x0 : Nat} {x1 : Nat} {x2 : Nat} {x3 : Int32} {z : Int32 × Mem} (h : f_X2_playDay M x0 x1 x2 x3 = some z) : MetS l G Y_X2_playDay [.inr (.inr x0), .inr (.inr x1), .inr (.inr x2), .inl x3] M (some (.int z.1)) z.2 :=
  met_of (ls0 := [some (.inr (.inr x0)), some (.inr (.inr x1)), some (.inr (.inr x2)), some (.inl x3), none, none]) (by decide) rfl (lv_in (m := 2) rfl) (sl_le (Nat.le_of_ble_eq_true rfl)) (by rw [h]; rfl) (Or.inl ⟨rfl, rfl⟩) (S_X2_playDay M x0 x1 x2 x3)
def f_X2_unreadDesks_B4 (M : Mem) (x0 : Nat) (x1 : Int32) (x2 : Int32) : Option ((Int32 × Int32) ⊕ ((Int32))) :=
  (if (8 : Int32) ≤ x2 then
    some (.inr x1)
  else
    (gR M 2 x0 10).bind fun v2 =>
    (aI M 0 v2 x2).bind fun v3 =>
    (if v3 ≤ 0 then
      some (.inl (x1, (x2 + (1 : Int32))))
    else
      some (.inl ((x1 ||| ((1 : Int32) <<< (x2 &&& 31))), (x2 + (1 : Int32))))))
def f_X2_unreadDesks_L4 (M : Mem) (x0 : Nat) (x1 : Int32) (x2 : Int32) : Option ((Int32)) := iter (fun s : Int32 × Int32 => f_X2_unreadDesks_B4 M x0 s.1 s.2) 1048576 (x1, x2)
set_option maxRecDepth 20000 in
theorem B_X2_unreadDesks_4 {l : Launch} {G : Gv} {lim : Nat × Nat} (M : Mem) (x0 : Nat) (x1 : Int32) (x2 : Int32) (K : (Int32 × Int32) ⊕ ((Int32)) → Option (Option Value × Mem)) (kk1 : ∀ (s1 : Int32) (s2 : Int32), SimR l G Y_X2_unreadDesks lim (K (.inl (s1, s2))) 4 [some (.inr (.inr x0)), some (.inl s1), some (.inl s2)] [] M) (kk2_0 : ∀ (s1 : Int32), SimR l G Y_X2_unreadDesks lim (K (.inr s1)) 31 [none, some (.inl s1), none] [] M) : Sim l G Y_X2_unreadDesks lim (f_X2_unreadDesks_B4 M x0 x1 x2) K 4 [some (.inr (.inr x0)), some (.inl x1), some (.inl x2)] [] M := by
  unfold f_X2_unreadDesks_B4
  refine s_run (b := [(.iload_n 2, 1), (.bipush 8, 2)]) 7 [some (.inr (.inr x0)), some (.inl x1), some (.inl x2)] [.inl (8 : Int32), .inl x2] (by decide +kernel) rfl ?_
  refine s_ic_ge (tgt := 31) (off := 24) (by decide +kernel) (by decide) (fun h1 => ?_) (fun h1 => ?_)
  · skip
    exact s_lsub (ls' := [none, some (.inl x1), none]) ⟨rfl, trivial⟩ (kk2_0 x1)
  · skip
    refine s_run (b := [(.aload_n 0, 1)]) 11 [some (.inr (.inr x0)), some (.inl x1), some (.inl x2)] [.inr (.inr x0)] (by decide +kernel) rfl ?_
    refine s_gR fl_2_22 rfl (by decide +kernel) (fun v2 => ?_)
    refine s_run (b := [(.iload_n 2, 1)]) 15 [some (.inr (.inr x0)), some (.inl x1), some (.inl x2)] [.inl x2, .inr (.inr v2)] (by decide +kernel) rfl ?_
    refine s_ia (by decide +kernel) (fun v3 => ?_)
    refine s_if_le (tgt := 25) (off := 9) (by decide +kernel) (by decide) (fun h4 => ?_) (fun h4 => ?_)
    · skip
      refine s_run (b := [(.iinc 2 1, 3), (.goto (-24), 3)]) 4 [some (.inr (.inr x0)), some (.inl x1), some (.inl (x2 + (1 : Int32)))] [] (by decide +kernel) rfl ?_
      exact s_lsub (ls' := [some (.inr (.inr x0)), some (.inl x1), some (.inl (x2 + (1 : Int32)))]) ⟨rfl, ⟨rfl, ⟨rfl, trivial⟩⟩⟩ (kk1 x1 (x2 + (1 : Int32)))
    · skip
      refine s_run (b := [(.iload_n 1, 1), (.iconst 1, 1), (.iload_n 2, 1), (.ishl, 1), (.ior, 1), (.istore_n 1, 1), (.iinc 2 1, 3), (.goto (-24), 3)]) 4 [some (.inr (.inr x0)), some (.inl (x1 ||| ((1 : Int32) <<< (x2 &&& 31)))), some (.inl (x2 + (1 : Int32)))] [] (by decide +kernel) rfl ?_
      exact s_lsub (ls' := [some (.inr (.inr x0)), some (.inl (x1 ||| ((1 : Int32) <<< (x2 &&& 31)))), some (.inl (x2 + (1 : Int32)))]) ⟨rfl, ⟨rfl, ⟨rfl, trivial⟩⟩⟩ (kk1 (x1 ||| ((1 : Int32) <<< (x2 &&& 31))) (x2 + (1 : Int32)))
set_option maxRecDepth 20000 in
theorem L_X2_unreadDesks_4 {l : Launch} {G : Gv} {lim : Nat × Nat} (M : Mem) (x0 : Nat) (x1 : Int32) (x2 : Int32) (K : ((Int32)) → Option (Option Value × Mem)) (kk2_0 : ∀ r : Int32, SimR l G Y_X2_unreadDesks lim (K r) 31 [none, some (.inl r), none] [] M) : Sim l G Y_X2_unreadDesks lim (f_X2_unreadDesks_L4 M x0 x1 x2) K 4 [some (.inr (.inr x0)), some (.inl x1), some (.inl x2)] [] M :=
  s_iter (f := fun s : Int32 × Int32 => f_X2_unreadDesks_B4 M x0 s.1 s.2) (hd := 4) (cl := fun s => [some (.inr (.inr x0)), some (.inl s.1), some (.inl s.2)]) (cm := fun s => M) (xp := fun _ => 31) (xl := fun r => [none, some (.inl r), none]) (xm := fun r => M) (fun s K h1 h2 => B_X2_unreadDesks_4 M x0 s.1 s.2 K (fun a1 a2 => h1 (a1, a2)) (fun a1 => h2 a1)) 1048576 (x1, x2) K kk2_0
def f_X2_unreadDesks (M : Mem) (x0 : Nat) : Option (Int32) :=
  (f_X2_unreadDesks_L4 M x0 (0 : Int32) (0 : Int32)).bind fun r1 =>
  some r1
set_option maxRecDepth 20000 in
theorem S_X2_unreadDesks {l : Launch} {G : Gv} {lim : Nat × Nat} (M : Mem) (x0 : Nat) : Sim l G Y_X2_unreadDesks lim (f_X2_unreadDesks M x0) (fun z => some (some (.int z), M)) 0 [some (.inr (.inr x0)), none, none] [] M := by
  unfold f_X2_unreadDesks
  refine s_run (b := [(.iconst 0, 1), (.istore_n 1, 1), (.iconst 0, 1), (.istore_n 2, 1)]) 4 [some (.inr (.inr x0)), some (.inl (0 : Int32)), some (.inl (0 : Int32))] [] (by decide +kernel) rfl ?_
  refine s_lsub (ls' := [some (.inr (.inr x0)), some (.inl (0 : Int32)), some (.inl (0 : Int32))]) ⟨rfl, ⟨rfl, ⟨rfl, trivial⟩⟩⟩ ?_
  refine sim_bind (L_X2_unreadDesks_4 M x0 (0 : Int32) (0 : Int32) _ (fun r1 => ?_))
  change Sim l G Y_X2_unreadDesks lim _ _ 31 [none, some (.inl r1), none] [] M
  refine s_run (b := [(.iload_n 1, 1)]) 32 [none, some (.inl r1), none] [.inl r1] (by decide +kernel) rfl ?_
  exact s_iret (by decide +kernel) rfl
set_option maxRecDepth 20000 in
theorem c_X2_unreadDesks {l : Launch} {G : Gv} {M : Mem} {x0 : Nat} {z : Int32} (h : f_X2_unreadDesks M x0 = some z) : MetS l G Y_X2_unreadDesks [.inr (.inr x0)] M (some (.int z)) M :=
  met_of (ls0 := [some (.inr (.inr x0)), none, none]) (by decide) rfl (lv_in (m := 2) rfl) (sl_le (Nat.le_of_ble_eq_true rfl)) (by rw [h]; rfl) (Or.inl ⟨rfl, rfl⟩) (S_X2_unreadDesks M x0)
def f_X9_dayAt (M : Mem) (x0 : Nat) (x1 : Int32) : Option (Nat) :=
  (if x1 < 0 then
    some 0
  else
    (gR M 9 x0 4).bind fun v2 =>
    (aI M 0 v2 (1 : Int32)).bind fun v3 =>
    (if v3 ≤ x1 then
      some 0
    else
      (gR M 9 x0 6).bind fun v5 =>
      (aR M 6 v5 x1).bind fun v6 =>
      some v6))
set_option maxRecDepth 20000 in
theorem S_X9_dayAt {l : Launch} {G : Gv} {lim : Nat × Nat} (M : Mem) (x0 : Nat) (x1 : Int32) : Sim l G Y_X9_dayAt lim (f_X9_dayAt M x0 x1) (fun z => some (some (rv G z), M)) 0 [some (.inr (.inr x0)), some (.inl x1)] [] M := by
  unfold f_X9_dayAt
  refine s_run (b := [(.iload_n 1, 1)]) 1 [some (.inr (.inr x0)), some (.inl x1)] [.inl x1] (by decide +kernel) rfl ?_
  refine s_if_lt (tgt := 23) (off := 22) (by decide +kernel) (by decide) (fun h1 => ?_) (fun h1 => ?_)
  · skip
    refine s_run (b := [(.aconst_null, 1)]) 24 [some (.inr (.inr x0)), some (.inl x1)] [.inr (.inr 0)] (by decide +kernel) rfl ?_
    exact s_aret (by decide +kernel) rfl (Or.inl ⟨_, rfl⟩)
  · skip
    refine s_run (b := [(.iload_n 1, 1), (.aload_n 0, 1)]) 6 [some (.inr (.inr x0)), some (.inl x1)] [.inr (.inr x0), .inl x1] (by decide +kernel) rfl ?_
    refine s_gR fl_9_19 rfl (by decide +kernel) (fun v2 => ?_)
    refine s_run (b := [(.iconst 1, 1)]) 10 [some (.inr (.inr x0)), some (.inl x1)] [.inl (1 : Int32), .inr (.inr v2), .inl x1] (by decide +kernel) rfl ?_
    refine s_ia (by decide +kernel) (fun v3 => ?_)
    refine s_ic_ge (tgt := 23) (off := 12) (by decide +kernel) (by decide) (fun h4 => ?_) (fun h4 => ?_)
    · skip
      refine s_run (b := [(.aconst_null, 1)]) 24 [some (.inr (.inr x0)), some (.inl x1)] [.inr (.inr 0)] (by decide +kernel) rfl ?_
      exact s_aret (by decide +kernel) rfl (Or.inl ⟨_, rfl⟩)
    · skip
      refine s_run (b := [(.aload_n 0, 1)]) 15 [some (.inr (.inr x0)), some (.inl x1)] [.inr (.inr x0)] (by decide +kernel) rfl ?_
      refine s_gR fl_9_31 rfl (by decide +kernel) (fun v5 => ?_)
      refine s_run (b := [(.iload_n 1, 1)]) 19 [some (.inr (.inr x0)), some (.inl x1)] [.inl x1, .inr (.inr v5)] (by decide +kernel) rfl ?_
      refine s_aa ⟨by decide, by decide⟩ rfl (by decide +kernel) (fun v6 => ?_)
      refine s_run (b := [(.goto 4, 3)]) 24 [some (.inr (.inr x0)), some (.inl x1)] [.inr (.inr v6)] (by decide +kernel) rfl ?_
      exact s_aret (by decide +kernel) rfl (Or.inl ⟨_, rfl⟩)
set_option maxRecDepth 20000 in
theorem c_X9_dayAt {l : Launch} {G : Gv} {M : Mem} {x0 : Nat} {x1 : Int32} {z : Nat} (h : f_X9_dayAt M x0 x1 = some z) : MetS l G Y_X9_dayAt [.inr (.inr x0), .inl x1] M (some (rv G z)) M :=
  met_of (ls0 := [some (.inr (.inr x0)), some (.inl x1)]) (by decide) rfl (lv_in (m := 0) rfl) (sl_le (Nat.le_of_ble_eq_true rfl)) (by rw [h]; rfl) (Or.inl ⟨rfl, rfl⟩) (S_X9_dayAt M x0 x1)
def f_X9_officeAt (M : Mem) (x0 : Nat) (x1 : Int32) : Option (Nat) :=
  (if x1 < 0 then
    some 0
  else
    (gR M 9 x0 4).bind fun v2 =>
    (aI M 0 v2 (0 : Int32)).bind fun v3 =>
    (if v3 ≤ x1 then
      some 0
    else
      (gR M 9 x0 5).bind fun v5 =>
      (aR M 5 v5 x1).bind fun v6 =>
      some v6))
set_option maxRecDepth 20000 in
theorem S_X9_officeAt {l : Launch} {G : Gv} {lim : Nat × Nat} (M : Mem) (x0 : Nat) (x1 : Int32) : Sim l G Y_X9_officeAt lim (f_X9_officeAt M x0 x1) (fun z => some (some (rv G z), M)) 0 [some (.inr (.inr x0)), some (.inl x1)] [] M := by
  unfold f_X9_officeAt
  refine s_run (b := [(.iload_n 1, 1)]) 1 [some (.inr (.inr x0)), some (.inl x1)] [.inl x1] (by decide +kernel) rfl ?_
  refine s_if_lt (tgt := 23) (off := 22) (by decide +kernel) (by decide) (fun h1 => ?_) (fun h1 => ?_)
  · skip
    refine s_run (b := [(.aconst_null, 1)]) 24 [some (.inr (.inr x0)), some (.inl x1)] [.inr (.inr 0)] (by decide +kernel) rfl ?_
    exact s_aret (by decide +kernel) rfl (Or.inl ⟨_, rfl⟩)
  · skip
    refine s_run (b := [(.iload_n 1, 1), (.aload_n 0, 1)]) 6 [some (.inr (.inr x0)), some (.inl x1)] [.inr (.inr x0), .inl x1] (by decide +kernel) rfl ?_
    refine s_gR fl_9_19 rfl (by decide +kernel) (fun v2 => ?_)
    refine s_run (b := [(.iconst 0, 1)]) 10 [some (.inr (.inr x0)), some (.inl x1)] [.inl (0 : Int32), .inr (.inr v2), .inl x1] (by decide +kernel) rfl ?_
    refine s_ia (by decide +kernel) (fun v3 => ?_)
    refine s_ic_ge (tgt := 23) (off := 12) (by decide +kernel) (by decide) (fun h4 => ?_) (fun h4 => ?_)
    · skip
      refine s_run (b := [(.aconst_null, 1)]) 24 [some (.inr (.inr x0)), some (.inl x1)] [.inr (.inr 0)] (by decide +kernel) rfl ?_
      exact s_aret (by decide +kernel) rfl (Or.inl ⟨_, rfl⟩)
    · skip
      refine s_run (b := [(.aload_n 0, 1)]) 15 [some (.inr (.inr x0)), some (.inl x1)] [.inr (.inr x0)] (by decide +kernel) rfl ?_
      refine s_gR fl_9_25 rfl (by decide +kernel) (fun v5 => ?_)
      refine s_run (b := [(.iload_n 1, 1)]) 19 [some (.inr (.inr x0)), some (.inl x1)] [.inl x1, .inr (.inr v5)] (by decide +kernel) rfl ?_
      refine s_aa ⟨by decide, by decide⟩ rfl (by decide +kernel) (fun v6 => ?_)
      refine s_run (b := [(.goto 4, 3)]) 24 [some (.inr (.inr x0)), some (.inl x1)] [.inr (.inr v6)] (by decide +kernel) rfl ?_
      exact s_aret (by decide +kernel) rfl (Or.inl ⟨_, rfl⟩)
set_option maxRecDepth 20000 in
theorem c_X9_officeAt {l : Launch} {G : Gv} {M : Mem} {x0 : Nat} {x1 : Int32} {z : Nat} (h : f_X9_officeAt M x0 x1 = some z) : MetS l G Y_X9_officeAt [.inr (.inr x0), .inl x1] M (some (rv G z)) M :=
  met_of (ls0 := [some (.inr (.inr x0)), some (.inl x1)]) (by decide) rfl (lv_in (m := 0) rfl) (sl_le (Nat.le_of_ble_eq_true rfl)) (by rw [h]; rfl) (Or.inl ⟨rfl, rfl⟩) (S_X9_officeAt M x0 x1)
def f_X11_after (M : Mem) (x0 : Nat) (x1 : Int32) (x2 : Int32) (x3 : Int32) : Option (Int32 × Mem) :=
  (gR M 11 x0 0).bind fun v1 =>
  (ob M 9 v1).bind fun _ => (f_X9_officeAt M v1 x1).bind fun v2 =>
  (gR M 11 x0 0).bind fun v3 =>
  (ob M 9 v3).bind fun _ => (f_X9_dayAt M v3 x2).bind fun v4 =>
  (if v2 = 0 then
    some ((-2 : Int32), M)
  else
    (if v4 = 0 then
      some ((-2 : Int32), M)
    else
      (gR M 11 x0 5).bind fun v7 =>
      (ob M 2 v7).bind fun _ => (f_X2_playDay M v7 v2 v4 (40 : Int32)).bind fun z8 =>
      (if x3 = (0 : Int32) then
        (gR z8.2 11 x0 5).bind fun v10 =>
        (ob z8.2 2 v10).bind fun _ => (f_X2_chiefHelper z8.2 v10).bind fun v11 =>
        some (v11, z8.2)
      else
      (if x3 = (1 : Int32) then
        (gR z8.2 11 x0 5).bind fun v13 =>
        (ob z8.2 2 v13).bind fun _ => (f_X2_halfOf z8.2 v13 v2 v4).bind fun z14 =>
        some (z14.1, z14.2)
      else
      (if x3 = (2 : Int32) then
        (gR z8.2 11 x0 5).bind fun v16 =>
        (ob z8.2 2 v16).bind fun _ => (f_X2_unreadDesks z8.2 v16).bind fun v17 =>
        some (v17, z8.2)
      else
      some ((-2 : Int32), z8.2))))))
set_option maxRecDepth 20000 in
theorem S_X11_after {l : Launch} {G : Gv} {lim : Nat × Nat} (M : Mem) (x0 : Nat) (x1 : Int32) (x2 : Int32) (x3 : Int32) : Sim l G Y_X11_after lim (f_X11_after M x0 x1 x2 x3) (fun z => some (some (.int z.1), z.2)) 0 [some (.inr (.inr x0)), some (.inl x1), some (.inl x2), some (.inl x3), none, none] [] M := by
  unfold f_X11_after
  refine s_run (b := [(.aload_n 0, 1)]) 1 [some (.inr (.inr x0)), some (.inl x1), some (.inl x2), some (.inl x3), none, none] [.inr (.inr x0)] (by decide +kernel) rfl ?_
  refine s_gR fl_11_10 rfl (by decide +kernel) (fun v1 => ?_)
  refine s_run (b := [(.iload_n 1, 1)]) 5 [some (.inr (.inr x0)), some (.inl x1), some (.inl x2), some (.inl x3), none, none] [.inl x1, .inr (.inr v1)] (by decide +kernel) rfl ?_
  refine s_cV (Z := Y_X9_officeAt) (c := 9) (vs := [.inl x1]) (st := []) (rO := fun z => some (.inr (.inr z))) (mO := fun _ => M) zk_X9_officeAt zi_X9_officeAt q716 rfl ⟨by decide, by decide⟩ ⟨rfl, rfl⟩ rfl rfl (Nat.le_of_ble_eq_true rfl) (by decide +kernel) (fun z hz => c_X9_officeAt hz) (fun v2 => ?_)
  change Sim l G Y_X11_after lim _ _ 8 [some (.inr (.inr x0)), some (.inl x1), some (.inl x2), some (.inl x3), none, none] [.inr (.inr v2)] M
  refine s_run (b := [(.astore 4, 2), (.aload_n 0, 1)]) 11 [some (.inr (.inr x0)), some (.inl x1), some (.inl x2), some (.inl x3), some (.inr (.inr v2)), none] [.inr (.inr x0)] (by decide +kernel) rfl ?_
  refine s_gR fl_11_10 rfl (by decide +kernel) (fun v3 => ?_)
  refine s_run (b := [(.iload_n 2, 1)]) 15 [some (.inr (.inr x0)), some (.inl x1), some (.inl x2), some (.inl x3), some (.inr (.inr v2)), none] [.inl x2, .inr (.inr v3)] (by decide +kernel) rfl ?_
  refine s_cV (Z := Y_X9_dayAt) (c := 9) (vs := [.inl x2]) (st := []) (rO := fun z => some (.inr (.inr z))) (mO := fun _ => M) zk_X9_dayAt zi_X9_dayAt q744 rfl ⟨by decide, by decide⟩ ⟨rfl, rfl⟩ rfl rfl (Nat.le_of_ble_eq_true rfl) (by decide +kernel) (fun z hz => c_X9_dayAt hz) (fun v4 => ?_)
  change Sim l G Y_X11_after lim _ _ 18 [some (.inr (.inr x0)), some (.inl x1), some (.inl x2), some (.inl x3), some (.inr (.inr v2)), none] [.inr (.inr v4)] M
  refine s_run (b := [(.astore 5, 2), (.aload 4, 2)]) 22 [some (.inr (.inr x0)), some (.inl x1), some (.inl x2), some (.inl x3), some (.inr (.inr v2)), some (.inr (.inr v4))] [.inr (.inr v2)] (by decide +kernel) rfl ?_
  refine s_ifnull (tgt := 30) (off := 8) (by decide +kernel) (by decide) (fun h5 => ?_) (fun h5 => ?_)
  · skip
    refine s_run (b := [(.bipush (-2), 2)]) 32 [some (.inr (.inr x0)), some (.inl x1), some (.inl x2), some (.inl x3), some (.inr (.inr v2)), some (.inr (.inr v4))] [.inl (-2 : Int32)] (by decide +kernel) rfl ?_
    exact s_iret (by decide +kernel) rfl
  · skip
    refine s_run (b := [(.aload 5, 2)]) 27 [some (.inr (.inr x0)), some (.inl x1), some (.inl x2), some (.inl x3), some (.inr (.inr v2)), some (.inr (.inr v4))] [.inr (.inr v4)] (by decide +kernel) rfl ?_
    refine s_ifnonnull (tgt := 33) (off := 6) (by decide +kernel) (by decide) (fun h6 => ?_) (fun h6 => ?_)
    · skip
      refine s_run (b := [(.bipush (-2), 2)]) 32 [some (.inr (.inr x0)), some (.inl x1), some (.inl x2), some (.inl x3), some (.inr (.inr v2)), some (.inr (.inr v4))] [.inl (-2 : Int32)] (by decide +kernel) rfl ?_
      exact s_iret (by decide +kernel) rfl
    · skip
      refine s_run (b := [(.aload_n 0, 1)]) 34 [some (.inr (.inr x0)), some (.inl x1), some (.inl x2), some (.inl x3), some (.inr (.inr v2)), some (.inr (.inr v4))] [.inr (.inr x0)] (by decide +kernel) rfl ?_
      refine s_gR fl_11_41 rfl (by decide +kernel) (fun v7 => ?_)
      refine s_run (b := [(.aload 4, 2), (.aload 5, 2), (.bipush 40, 2)]) 43 [some (.inr (.inr x0)), some (.inl x1), some (.inl x2), some (.inl x3), some (.inr (.inr v2)), some (.inr (.inr v4))] [.inl (40 : Int32), .inr (.inr v4), .inr (.inr v2), .inr (.inr v7)] (by decide +kernel) rfl ?_
      refine s_cV (Z := Y_X2_playDay) (c := 2) (vs := [.inr (.inr v2), .inr (.inr v4), .inl (40 : Int32)]) (st := []) (rO := fun z => some (.inl z.1)) (mO := fun z => z.2) zk_X2_playDay zi_X2_playDay q756 rfl ⟨by decide, by decide⟩ ⟨rfl, rfl⟩ rfl rfl (Nat.le_of_ble_eq_true rfl) (by decide +kernel) (fun z hz => c_X2_playDay hz) (fun z8 => ?_)
      change Sim l G Y_X11_after lim _ _ 46 [some (.inr (.inr x0)), some (.inl x1), some (.inl x2), some (.inl x3), some (.inr (.inr v2)), some (.inr (.inr v4))] [.inl z8.1] z8.2
      refine s_run (b := [(.pop, 1), (.iload_n 3, 1)]) 48 [some (.inr (.inr x0)), some (.inl x1), some (.inl x2), some (.inl x3), some (.inr (.inr v2)), some (.inr (.inr v4))] [.inl x3] (by decide +kernel) rfl ?_
      refine s_ite (fun h9 => ?_) (fun h9 => ?_)
      · refine s_tabIn (off := 28) (tgt := 76) (dflt := 56) (lo := 0) (hi := 2) (offs := #[28, 36, 48]) (len := 28) (0 : Int32) (by decide +kernel) h9 rfl rfl rfl (by decide) ?_
        change Sim l G Y_X11_after lim _ _ 76 [some (.inr (.inr x0)), some (.inl x1), some (.inl x2), some (.inl x3), some (.inr (.inr v2)), some (.inr (.inr v4))] [] z8.2
        refine s_run (b := [(.aload_n 0, 1)]) 77 [some (.inr (.inr x0)), some (.inl x1), some (.inl x2), some (.inl x3), some (.inr (.inr v2)), some (.inr (.inr v4))] [.inr (.inr x0)] (by decide +kernel) rfl ?_
        refine s_gR fl_11_41 rfl (by decide +kernel) (fun v10 => ?_)
        refine s_cV (Z := Y_X2_chiefHelper) (c := 2) (vs := []) (st := []) (rO := fun z => some (.inl z)) (mO := fun _ => z8.2) zk_X2_chiefHelper zi_X2_chiefHelper q1217 rfl ⟨by decide, by decide⟩ ⟨rfl, rfl⟩ rfl rfl (Nat.le_of_ble_eq_true rfl) (by decide +kernel) (fun z hz => c_X2_chiefHelper hz) (fun v11 => ?_)
        change Sim l G Y_X11_after lim _ _ 83 [some (.inr (.inr x0)), some (.inl x1), some (.inl x2), some (.inl x3), some (.inr (.inr v2)), some (.inr (.inr v4))] [.inl v11] z8.2
        exact s_iret (by decide +kernel) rfl
      refine s_ite (fun h12 => ?_) (fun h12 => ?_)
      · refine s_tabIn (off := 36) (tgt := 84) (dflt := 56) (lo := 0) (hi := 2) (offs := #[28, 36, 48]) (len := 28) (1 : Int32) (by decide +kernel) h12 rfl rfl rfl (by decide) ?_
        change Sim l G Y_X11_after lim _ _ 84 [some (.inr (.inr x0)), some (.inl x1), some (.inl x2), some (.inl x3), some (.inr (.inr v2)), some (.inr (.inr v4))] [] z8.2
        refine s_run (b := [(.aload_n 0, 1)]) 85 [some (.inr (.inr x0)), some (.inl x1), some (.inl x2), some (.inl x3), some (.inr (.inr v2)), some (.inr (.inr v4))] [.inr (.inr x0)] (by decide +kernel) rfl ?_
        refine s_gR fl_11_41 rfl (by decide +kernel) (fun v13 => ?_)
        refine s_run (b := [(.aload 4, 2), (.aload 5, 2)]) 92 [some (.inr (.inr x0)), some (.inl x1), some (.inl x2), some (.inl x3), some (.inr (.inr v2)), some (.inr (.inr v4))] [.inr (.inr v4), .inr (.inr v2), .inr (.inr v13)] (by decide +kernel) rfl ?_
        refine s_cV (Z := Y_X2_halfOf) (c := 2) (vs := [.inr (.inr v2), .inr (.inr v4)]) (st := []) (rO := fun z => some (.inl z.1)) (mO := fun z => z.2) zk_X2_halfOf zi_X2_halfOf q1222 rfl ⟨by decide, by decide⟩ ⟨rfl, rfl⟩ rfl rfl (Nat.le_of_ble_eq_true rfl) (by decide +kernel) (fun z hz => c_X2_halfOf hz) (fun z14 => ?_)
        change Sim l G Y_X11_after lim _ _ 95 [some (.inr (.inr x0)), some (.inl x1), some (.inl x2), some (.inl x3), some (.inr (.inr v2)), some (.inr (.inr v4))] [.inl z14.1] z14.2
        exact s_iret (by decide +kernel) rfl
      refine s_ite (fun h15 => ?_) (fun h15 => ?_)
      · refine s_tabIn (off := 48) (tgt := 96) (dflt := 56) (lo := 0) (hi := 2) (offs := #[28, 36, 48]) (len := 28) (2 : Int32) (by decide +kernel) h15 rfl rfl rfl (by decide) ?_
        change Sim l G Y_X11_after lim _ _ 96 [some (.inr (.inr x0)), some (.inl x1), some (.inl x2), some (.inl x3), some (.inr (.inr v2)), some (.inr (.inr v4))] [] z8.2
        refine s_run (b := [(.aload_n 0, 1)]) 97 [some (.inr (.inr x0)), some (.inl x1), some (.inl x2), some (.inl x3), some (.inr (.inr v2)), some (.inr (.inr v4))] [.inr (.inr x0)] (by decide +kernel) rfl ?_
        refine s_gR fl_11_41 rfl (by decide +kernel) (fun v16 => ?_)
        refine s_cV (Z := Y_X2_unreadDesks) (c := 2) (vs := []) (st := []) (rO := fun z => some (.inl z)) (mO := fun _ => z8.2) zk_X2_unreadDesks zi_X2_unreadDesks q1226 rfl ⟨by decide, by decide⟩ ⟨rfl, rfl⟩ rfl rfl (Nat.le_of_ble_eq_true rfl) (by decide +kernel) (fun z hz => c_X2_unreadDesks hz) (fun v17 => ?_)
        change Sim l G Y_X11_after lim _ _ 103 [some (.inr (.inr x0)), some (.inl x1), some (.inl x2), some (.inl x3), some (.inr (.inr v2)), some (.inr (.inr v4))] [.inl v17] z8.2
        exact s_iret (by decide +kernel) rfl
      refine s_tabOut (tgt := 104) (dflt := 56) (lo := 0) (hi := 2) (offs := #[28, 36, 48]) (len := 28) (by decide +kernel) (tab_out (fun k hk => by rcases (show k = 0 ∨ k = 1 ∨ k = 2 by omega) with rfl | rfl | rfl <;> first | exact i32_ne h9 (by decide) | exact i32_ne h12 (by decide) | exact i32_ne h15 (by decide))) (by decide) ?_
      change Sim l G Y_X11_after lim _ _ 104 [some (.inr (.inr x0)), some (.inl x1), some (.inl x2), some (.inl x3), some (.inr (.inr v2)), some (.inr (.inr v4))] [] z8.2
      refine s_run (b := [(.bipush (-2), 2)]) 106 [some (.inr (.inr x0)), some (.inl x1), some (.inl x2), some (.inl x3), some (.inr (.inr v2)), some (.inr (.inr v4))] [.inl (-2 : Int32)] (by decide +kernel) rfl ?_
      exact s_iret (by decide +kernel) rfl
set_option maxRecDepth 20000 in
theorem c_X11_after {l : Launch} {G : Gv} {M : Mem} {x0 : Nat} {x1 : Int32} {x2 : Int32} {x3 : Int32} {z : Int32 × Mem} (h : f_X11_after M x0 x1 x2 x3 = some z) : MetS l G Y_X11_after [.inr (.inr x0), .inl x1, .inl x2, .inl x3] M (some (.int z.1)) z.2 :=
  met_of (ls0 := [some (.inr (.inr x0)), some (.inl x1), some (.inl x2), some (.inl x3), none, none]) (by decide) rfl (lv_in (m := 2) rfl) (sl_le (Nat.le_of_ble_eq_true rfl)) (by rw [h]; rfl) (Or.inl ⟨rfl, rfl⟩) (S_X11_after M x0 x1 x2 x3)
def f_X1_copyFrom (M : Mem) (x0 : Nat) (x1 : Nat) : Option (Mem) :=
  (gI M 1 x1 0).bind fun v1 =>
  (pI M 1 x0 0 v1).bind fun M2 =>
  (gR M2 1 x1 1).bind fun v3 =>
  (gR M2 1 x0 1).bind fun v4 =>
  (cpA M2 0 v3 (0 : Int32) v4 (0 : Int32) (40 : Int32)).bind fun M5 =>
  (gR M5 1 x1 2).bind fun v6 =>
  (gR M5 1 x0 2).bind fun v7 =>
  (cpA M5 0 v6 (0 : Int32) v7 (0 : Int32) (40 : Int32)).bind fun M8 =>
  some M8
set_option maxRecDepth 20000 in
theorem S_X1_copyFrom {l : Launch} {G : Gv} {lim : Nat × Nat} (M : Mem) (x0 : Nat) (x1 : Nat) : Sim l G Y_X1_copyFrom lim (f_X1_copyFrom M x0 x1) (fun z => some (none, z)) 0 [some (.inr (.inr x0)), some (.inr (.inr x1))] [] M := by
  unfold f_X1_copyFrom
  refine s_run (b := [(.aload_n 0, 1), (.aload_n 1, 1)]) 2 [some (.inr (.inr x0)), some (.inr (.inr x1))] [.inr (.inr x1), .inr (.inr x0)] (by decide +kernel) rfl ?_
  refine s_gI fl_1_18 rfl (by decide +kernel) (fun v1 => ?_)
  refine s_pI fl_1_18 (Or.inl rfl) rfl (by decide +kernel) (fun M2 => ?_)
  refine s_run (b := [(.aload_n 1, 1)]) 9 [some (.inr (.inr x0)), some (.inr (.inr x1))] [.inr (.inr x1)] (by decide +kernel) rfl ?_
  refine s_gR fl_1_9 rfl (by decide +kernel) (fun v3 => ?_)
  refine s_run (b := [(.iconst 0, 1), (.aload_n 0, 1)]) 14 [some (.inr (.inr x0)), some (.inr (.inr x1))] [.inr (.inr x0), .inl (0 : Int32), .inr (.inr v3)] (by decide +kernel) rfl ?_
  refine s_gR fl_1_9 rfl (by decide +kernel) (fun v4 => ?_)
  refine s_run (b := [(.iconst 0, 1), (.bipush 40, 2)]) 20 [some (.inr (.inr x0)), some (.inr (.inr x1))] [.inl (40 : Int32), .inl (0 : Int32), .inr (.inr v4), .inl (0 : Int32), .inr (.inr v3)] (by decide +kernel) rfl ?_
  refine s_copy (by decide) q699 ⟨q694, q693, q19⟩ ⟨Nat.le_of_ble_eq_true rfl, Nat.le_of_ble_eq_true rfl⟩ (by decide +kernel) (fun M5 => ?_)
  refine s_run (b := [(.aload_n 1, 1)]) 24 [some (.inr (.inr x0)), some (.inr (.inr x1))] [.inr (.inr x1)] (by decide +kernel) rfl ?_
  refine s_gR fl_1_15 rfl (by decide +kernel) (fun v6 => ?_)
  refine s_run (b := [(.iconst 0, 1), (.aload_n 0, 1)]) 29 [some (.inr (.inr x0)), some (.inr (.inr x1))] [.inr (.inr x0), .inl (0 : Int32), .inr (.inr v6)] (by decide +kernel) rfl ?_
  refine s_gR fl_1_15 rfl (by decide +kernel) (fun v7 => ?_)
  refine s_run (b := [(.iconst 0, 1), (.bipush 40, 2)]) 35 [some (.inr (.inr x0)), some (.inr (.inr x1))] [.inl (40 : Int32), .inl (0 : Int32), .inr (.inr v7), .inl (0 : Int32), .inr (.inr v6)] (by decide +kernel) rfl ?_
  refine s_copy (by decide) q699 ⟨q694, q693, q19⟩ ⟨Nat.le_of_ble_eq_true rfl, Nat.le_of_ble_eq_true rfl⟩ (by decide +kernel) (fun M8 => ?_)
  exact s_vret (by decide +kernel) rfl
set_option maxRecDepth 20000 in
theorem c_X1_copyFrom {l : Launch} {G : Gv} {M : Mem} {x0 : Nat} {x1 : Nat} {z : Mem} (h : f_X1_copyFrom M x0 x1 = some z) : MetS l G Y_X1_copyFrom [.inr (.inr x0), .inr (.inr x1)] M none z :=
  met_of (ls0 := [some (.inr (.inr x0)), some (.inr (.inr x1))]) (by decide) rfl (lv_in (m := 0) rfl) (sl_le (Nat.le_of_ble_eq_true rfl)) (by rw [h]; rfl) (Or.inl ⟨rfl, rfl⟩) (S_X1_copyFrom M x0 x1)
