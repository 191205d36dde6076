def f_X7_spelling (M : Mem) (x0 : Int32) : Option (Nat) :=
  (if x0 = (0 : Int32) then
    some 2000
  else
  (if x0 = (1 : Int32) then
    some 2001
  else
  (if x0 = (2 : Int32) then
    some 2002
  else
  (if x0 = (3 : Int32) then
    some 2003
  else
  (if x0 = (4 : Int32) then
    some 2004
  else
  (if x0 = (5 : Int32) then
    some 2005
  else
  (if x0 = (6 : Int32) then
    some 2006
  else
  (if x0 = (7 : Int32) then
    some 2007
  else
  (if x0 = (8 : Int32) then
    some 2008
  else
  (if x0 = (9 : Int32) then
    some 2009
  else
  (if x0 = (10 : Int32) then
    some 2010
  else
  (if x0 = (11 : Int32) then
    some 2011
  else
  (if x0 = (12 : Int32) then
    some 2012
  else
  (if x0 = (13 : Int32) then
    some 2013
  else
  some 2014))))))))))))))
set_option maxRecDepth 20000 in
theorem S_X7_spelling {l : Launch} {G : Gv} {lim : Nat × Nat} (M : Mem) (x0 : Int32) : Sim l G Y_X7_spelling lim (f_X7_spelling M x0) (fun z => some (some (rv G z), M)) 0 [some (.inl x0)] [] M := by
  unfold f_X7_spelling
  refine s_run (b := [(.iload_n 0, 1)]) 1 [some (.inl x0)] [.inl x0] (by decide +kernel) rfl ?_
  refine s_ite (fun h1 => ?_) (fun h1 => ?_)
  · refine s_tabIn (off := 71) (tgt := 72) (dflt := 113) (lo := 0) (hi := 13) (offs := #[71, 74, 77, 80, 83, 86, 89, 92, 95, 98, 101, 104, 107, 110]) (len := 71) (0 : Int32) (by decide +kernel) h1 rfl rfl rfl (by decide) ?_
    change Sim l G Y_X7_spelling lim _ _ 72 [some (.inl x0)] [] M
    refine s_ldcS (i := 0) (by decide) rfl rfl (by decide +kernel) ?_
    change Sim l G Y_X7_spelling lim _ _ 74 [some (.inl x0)] [.inr (.inr 2000)] M
    exact s_aret (by decide +kernel) rfl (Or.inl ⟨_, rfl⟩)
  refine s_ite (fun h2 => ?_) (fun h2 => ?_)
  · refine s_tabIn (off := 74) (tgt := 75) (dflt := 113) (lo := 0) (hi := 13) (offs := #[71, 74, 77, 80, 83, 86, 89, 92, 95, 98, 101, 104, 107, 110]) (len := 71) (1 : Int32) (by decide +kernel) h2 rfl rfl rfl (by decide) ?_
    change Sim l G Y_X7_spelling lim _ _ 75 [some (.inl x0)] [] M
    refine s_ldcS (i := 1) (by decide) rfl rfl (by decide +kernel) ?_
    change Sim l G Y_X7_spelling lim _ _ 77 [some (.inl x0)] [.inr (.inr 2001)] M
    exact s_aret (by decide +kernel) rfl (Or.inl ⟨_, rfl⟩)
  refine s_ite (fun h3 => ?_) (fun h3 => ?_)
  · refine s_tabIn (off := 77) (tgt := 78) (dflt := 113) (lo := 0) (hi := 13) (offs := #[71, 74, 77, 80, 83, 86, 89, 92, 95, 98, 101, 104, 107, 110]) (len := 71) (2 : Int32) (by decide +kernel) h3 rfl rfl rfl (by decide) ?_
    change Sim l G Y_X7_spelling lim _ _ 78 [some (.inl x0)] [] M
    refine s_ldcS (i := 2) (by decide) rfl rfl (by decide +kernel) ?_
    change Sim l G Y_X7_spelling lim _ _ 80 [some (.inl x0)] [.inr (.inr 2002)] M
    exact s_aret (by decide +kernel) rfl (Or.inl ⟨_, rfl⟩)
  refine s_ite (fun h4 => ?_) (fun h4 => ?_)
  · refine s_tabIn (off := 80) (tgt := 81) (dflt := 113) (lo := 0) (hi := 13) (offs := #[71, 74, 77, 80, 83, 86, 89, 92, 95, 98, 101, 104, 107, 110]) (len := 71) (3 : Int32) (by decide +kernel) h4 rfl rfl rfl (by decide) ?_
    change Sim l G Y_X7_spelling lim _ _ 81 [some (.inl x0)] [] M
    refine s_ldcS (i := 3) (by decide) rfl rfl (by decide +kernel) ?_
    change Sim l G Y_X7_spelling lim _ _ 83 [some (.inl x0)] [.inr (.inr 2003)] M
    exact s_aret (by decide +kernel) rfl (Or.inl ⟨_, rfl⟩)
  refine s_ite (fun h5 => ?_) (fun h5 => ?_)
  · refine s_tabIn (off := 83) (tgt := 84) (dflt := 113) (lo := 0) (hi := 13) (offs := #[71, 74, 77, 80, 83, 86, 89, 92, 95, 98, 101, 104, 107, 110]) (len := 71) (4 : Int32) (by decide +kernel) h5 rfl rfl rfl (by decide) ?_
    change Sim l G Y_X7_spelling lim _ _ 84 [some (.inl x0)] [] M
    refine s_ldcS (i := 4) (by decide) rfl rfl (by decide +kernel) ?_
    change Sim l G Y_X7_spelling lim _ _ 86 [some (.inl x0)] [.inr (.inr 2004)] M
    exact s_aret (by decide +kernel) rfl (Or.inl ⟨_, rfl⟩)
  refine s_ite (fun h6 => ?_) (fun h6 => ?_)
  · refine s_tabIn (off := 86) (tgt := 87) (dflt := 113) (lo := 0) (hi := 13) (offs := #[71, 74, 77, 80, 83, 86, 89, 92, 95, 98, 101, 104, 107, 110]) (len := 71) (5 : Int32) (by decide +kernel) h6 rfl rfl rfl (by decide) ?_
    change Sim l G Y_X7_spelling lim _ _ 87 [some (.inl x0)] [] M
    refine s_ldcS (i := 5) (by decide) rfl rfl (by decide +kernel) ?_
    change Sim l G Y_X7_spelling lim _ _ 89 [some (.inl x0)] [.inr (.inr 2005)] M
    exact s_aret (by decide +kernel) rfl (Or.inl ⟨_, rfl⟩)
  refine s_ite (fun h7 => ?_) (fun h7 => ?_)
  · refine s_tabIn (off := 89) (tgt := 90) (dflt := 113) (lo := 0) (hi := 13) (offs := #[71, 74, 77, 80, 83, 86, 89, 92, 95, 98, 101, 104, 107, 110]) (len := 71) (6 : Int32) (by decide +kernel) h7 rfl rfl rfl (by decide) ?_
    change Sim l G Y_X7_spelling lim _ _ 90 [some (.inl x0)] [] M
    refine s_ldcS (i := 6) (by decide) rfl rfl (by decide +kernel) ?_
    change Sim l G Y_X7_spelling lim _ _ 92 [some (.inl x0)] [.inr (.inr 2006)] M
    exact s_aret (by decide +kernel) rfl (Or.inl ⟨_, rfl⟩)
  refine s_ite (fun h8 => ?_) (fun h8 => ?_)
  · refine s_tabIn (off := 92) (tgt := 93) (dflt := 113) (lo := 0) (hi := 13) (offs := #[71, 74, 77, 80, 83, 86, 89, 92, 95, 98, 101, 104, 107, 110]) (len := 71) (7 : Int32) (by decide +kernel) h8 rfl rfl rfl (by decide) ?_
    change Sim l G Y_X7_spelling lim _ _ 93 [some (.inl x0)] [] M
    refine s_ldcS (i := 7) (by decide) rfl rfl (by decide +kernel) ?_
    change Sim l G Y_X7_spelling lim _ _ 95 [some (.inl x0)] [.inr (.inr 2007)] M
    exact s_aret (by decide +kernel) rfl (Or.inl ⟨_, rfl⟩)
  refine s_ite (fun h9 => ?_) (fun h9 => ?_)
  · refine s_tabIn (off := 95) (tgt := 96) (dflt := 113) (lo := 0) (hi := 13) (offs := #[71, 74, 77, 80, 83, 86, 89, 92, 95, 98, 101, 104, 107, 110]) (len := 71) (8 : Int32) (by decide +kernel) h9 rfl rfl rfl (by decide) ?_
    change Sim l G Y_X7_spelling lim _ _ 96 [some (.inl x0)] [] M
    refine s_ldcS (i := 8) (by decide) rfl rfl (by decide +kernel) ?_
    change Sim l G Y_X7_spelling lim _ _ 98 [some (.inl x0)] [.inr (.inr 2008)] M
    exact s_aret (by decide +kernel) rfl (Or.inl ⟨_, rfl⟩)
  refine s_ite (fun h10 => ?_) (fun h10 => ?_)
  · refine s_tabIn (off := 98) (tgt := 99) (dflt := 113) (lo := 0) (hi := 13) (offs := #[71, 74, 77, 80, 83, 86, 89, 92, 95, 98, 101, 104, 107, 110]) (len := 71) (9 : Int32) (by decide +kernel) h10 rfl rfl rfl (by decide) ?_
    change Sim l G Y_X7_spelling lim _ _ 99 [some (.inl x0)] [] M
    refine s_ldcS (i := 9) (by decide) rfl rfl (by decide +kernel) ?_
    change Sim l G Y_X7_spelling lim _ _ 101 [some (.inl x0)] [.inr (.inr 2009)] M
    exact s_aret (by decide +kernel) rfl (Or.inl ⟨_, rfl⟩)
  refine s_ite (fun h11 => ?_) (fun h11 => ?_)
  · refine s_tabIn (off := 101) (tgt := 102) (dflt := 113) (lo := 0) (hi := 13) (offs := #[71, 74, 77, 80, 83, 86, 89, 92, 95, 98, 101, 104, 107, 110]) (len := 71) (10 : Int32) (by decide +kernel) h11 rfl rfl rfl (by decide) ?_
    change Sim l G Y_X7_spelling lim _ _ 102 [some (.inl x0)] [] M
    refine s_ldcS (i := 10) (by decide) rfl rfl (by decide +kernel) ?_
    change Sim l G Y_X7_spelling lim _ _ 104 [some (.inl x0)] [.inr (.inr 2010)] M
    exact s_aret (by decide +kernel) rfl (Or.inl ⟨_, rfl⟩)
  refine s_ite (fun h12 => ?_) (fun h12 => ?_)
  · refine s_tabIn (off := 104) (tgt := 105) (dflt := 113) (lo := 0) (hi := 13) (offs := #[71, 74, 77, 80, 83, 86, 89, 92, 95, 98, 101, 104, 107, 110]) (len := 71) (11 : Int32) (by decide +kernel) h12 rfl rfl rfl (by decide) ?_
    change Sim l G Y_X7_spelling lim _ _ 105 [some (.inl x0)] [] M
    refine s_ldcS (i := 11) (by decide) rfl rfl (by decide +kernel) ?_
    change Sim l G Y_X7_spelling lim _ _ 107 [some (.inl x0)] [.inr (.inr 2011)] M
    exact s_aret (by decide +kernel) rfl (Or.inl ⟨_, rfl⟩)
  refine s_ite (fun h13 => ?_) (fun h13 => ?_)
  · refine s_tabIn (off := 107) (tgt := 108) (dflt := 113) (lo := 0) (hi := 13) (offs := #[71, 74, 77, 80, 83, 86, 89, 92, 95, 98, 101, 104, 107, 110]) (len := 71) (12 : Int32) (by decide +kernel) h13 rfl rfl rfl (by decide) ?_
    change Sim l G Y_X7_spelling lim _ _ 108 [some (.inl x0)] [] M
    refine s_ldcS (i := 12) (by decide) rfl rfl (by decide +kernel) ?_
    change Sim l G Y_X7_spelling lim _ _ 110 [some (.inl x0)] [.inr (.inr 2012)] M
    exact s_aret (by decide +kernel) rfl (Or.inl ⟨_, rfl⟩)
  refine s_ite (fun h14 => ?_) (fun h14 => ?_)
  · refine s_tabIn (off := 110) (tgt := 111) (dflt := 113) (lo := 0) (hi := 13) (offs := #[71, 74, 77, 80, 83, 86, 89, 92, 95, 98, 101, 104, 107, 110]) (len := 71) (13 : Int32) (by decide +kernel) h14 rfl rfl rfl (by decide) ?_
    change Sim l G Y_X7_spelling lim _ _ 111 [some (.inl x0)] [] M
    refine s_ldcS (i := 13) (by decide) rfl rfl (by decide +kernel) ?_
    change Sim l G Y_X7_spelling lim _ _ 113 [some (.inl x0)] [.inr (.inr 2013)] M
    exact s_aret (by decide +kernel) rfl (Or.inl ⟨_, rfl⟩)
  refine s_tabOut (tgt := 114) (dflt := 113) (lo := 0) (hi := 13) (offs := #[71, 74, 77, 80, 83, 86, 89, 92, 95, 98, 101, 104, 107, 110]) (len := 71) (by decide +kernel) (tab_out (fun k hk => by rcases (show k = 0 ∨ k = 1 ∨ k = 2 ∨ k = 3 ∨ k = 4 ∨ k = 5 ∨ k = 6 ∨ k = 7 ∨ k = 8 ∨ k = 9 ∨ k = 10 ∨ k = 11 ∨ k = 12 ∨ k = 13 by omega) with rfl | rfl | rfl | rfl | rfl | rfl | rfl | rfl | rfl | rfl | rfl | rfl | rfl | rfl <;> first | exact i32_ne h1 (by decide) | exact i32_ne h2 (by decide) | exact i32_ne h3 (by decide) | exact i32_ne h4 (by decide) | exact i32_ne h5 (by decide) | exact i32_ne h6 (by decide) | exact i32_ne h7 (by decide) | exact i32_ne h8 (by decide) | exact i32_ne h9 (by decide) | exact i32_ne h10 (by decide) | exact i32_ne h11 (by decide) | exact i32_ne h12 (by decide) | exact i32_ne h13 (by decide) | exact i32_ne h14 (by decide))) (by decide) ?_
  change Sim l G Y_X7_spelling lim _ _ 114 [some (.inl x0)] [] M
  refine s_ldcS (i := 14) (by decide) rfl rfl (by decide +kernel) ?_
  change Sim l G Y_X7_spelling lim _ _ 116 [some (.inl x0)] [.inr (.inr 2014)] M
  exact s_aret (by decide +kernel) rfl (Or.inl ⟨_, rfl⟩)
set_option maxRecDepth 20000 in
theorem c_X7_spelling {l : Launch} {G : Gv} {M : Mem} {x0 : Int32} {z : Nat} (h : f_X7_spelling M x0 = some z) : MetS l G Y_X7_spelling [.inl x0] M (some (rv G z)) M :=
  met_of (ls0 := [some (.inl x0)]) (by decide) rfl (lv_in (m := 0) rfl) (sl_le (Nat.le_of_ble_eq_true rfl)) (by rw [h]; rfl) (Or.inl ⟨rfl, rfl⟩) (S_X7_spelling M x0)
def f_X7_wordHere_B6 (M : Mem) (x0 : Nat) (x1 : Int32) (x2 : Int32) : Option ((Int32) ⊕ ((Int32) ⊕ (Unit))) :=
  (aI M 0 1001 (x1 + (1 : Int32))).bind fun v1 =>
  (if v1 ≤ x2 then
    some (.inr (.inr ()))
  else
    (f_X7_spelling M x2).bind fun v3 =>
    (ob M 7 x0).bind fun _ => (f_X7_isHere M x0 v3).bind fun v4 =>
    (if v4 = 0 then
      some (.inl (x2 + (1 : Int32)))
    else
      some (.inr (.inl x2))))
def f_X7_wordHere_L6 (M : Mem) (x0 : Nat) (x1 : Int32) (x2 : Int32) : Option ((Int32) ⊕ (Unit)) := iter (fun s : Int32 => f_X7_wordHere_B6 M x0 x1 s) 1048576 x2
set_option maxRecDepth 20000 in
theorem B_X7_wordHere_6 {l : Launch} {G : Gv} {lim : Nat × Nat} (M : Mem) (x0 : Nat) (x1 : Int32) (x2 : Int32) (K : (Int32) ⊕ ((Int32) ⊕ (Unit)) → Option (Option Value × Mem)) (kk1 : ∀ (s2 : Int32), SimR l G Y_X7_wordHere lim (K (.inl s2)) 6 [some (.inr (.inr x0)), some (.inl x1), some (.inl s2)] [] M) (kk2_0 : ∀ (s2 : Int32), SimR l G Y_X7_wordHere lim (K (.inr (.inl s2))) 28 [none, none, some (.inl s2)] [] M) (kk2_1 : SimR l G Y_X7_wordHere lim (K (.inr (.inr ()))) 36 [none, none, none] [] M) : Sim l G Y_X7_wordHere lim (f_X7_wordHere_B6 M x0 x1 x2) K 6 [some (.inr (.inr x0)), some (.inl x1), some (.inl x2)] [] M := by
  unfold f_X7_wordHere_B6
  refine s_run (b := [(.iload_n 2, 1)]) 7 [some (.inr (.inr x0)), some (.inl x1), some (.inl x2)] [.inl x2] (by decide +kernel) rfl ?_
  refine s_gs (j := 1) (by decide) q545 (by decide +kernel) ?_
  change Sim l G Y_X7_wordHere lim _ _ 10 [some (.inr (.inr x0)), some (.inl x1), some (.inl x2)] [.inr (.inr 1001), .inl x2] M
  refine s_run (b := [(.iload_n 1, 1), (.iconst 1, 1), (.iadd, 1)]) 13 [some (.inr (.inr x0)), some (.inl x1), some (.inl x2)] [.inl (x1 + (1 : Int32)), .inr (.inr 1001), .inl x2] (by decide +kernel) rfl ?_
  refine s_ia (by decide +kernel) (fun v1 => ?_)
  refine s_ic_ge (tgt := 36) (off := 22) (by decide +kernel) (by decide) (fun h2 => ?_) (fun h2 => ?_)
  · skip
    exact s_lsub (ls' := [none, none, none]) trivial (kk2_1 )
  · skip
    refine s_run (b := [(.aload_n 0, 1), (.iload_n 2, 1)]) 19 [some (.inr (.inr x0)), some (.inl x1), some (.inl x2)] [.inl x2, .inr (.inr x0)] (by decide +kernel) rfl ?_
    refine s_cS (Z := Y_X7_spelling) (vs := [.inl x2]) (st := [.inr (.inr x0)]) (rO := fun z => some (.inr (.inr z))) (mO := fun _ => M) zk_X7_spelling q548 q547 ⟨by decide, by decide⟩ ⟨rfl, rfl⟩ rfl rfl (Nat.le_of_ble_eq_true rfl) (by decide +kernel) (fun z hz => c_X7_spelling hz) (fun v3 => ?_)
    change Sim l G Y_X7_wordHere lim _ _ 22 [some (.inr (.inr x0)), some (.inl x1), some (.inl x2)] [.inr (.inr v3), .inr (.inr x0)] M
    refine s_cV (Z := Y_X7_isHere) (c := 7) (vs := [.inr (.inr v3)]) (st := []) (rO := fun z => some (.inl z)) (mO := fun _ => M) zk_X7_isHere zi_X7_isHere q565 rfl ⟨by decide, by decide⟩ ⟨rfl, rfl⟩ rfl rfl (Nat.le_of_ble_eq_true rfl) (by decide +kernel) (fun z hz => c_X7_isHere hz) (fun v4 => ?_)
    change Sim l G Y_X7_wordHere lim _ _ 25 [some (.inr (.inr x0)), some (.inl x1), some (.inl x2)] [.inl v4] M
    refine s_if_eq (tgt := 30) (off := 5) (by decide +kernel) (by decide) (fun h5 => ?_) (fun h5 => ?_)
    · skip
      refine s_run (b := [(.iinc 2 1, 3), (.goto (-27), 3)]) 6 [some (.inr (.inr x0)), some (.inl x1), some (.inl (x2 + (1 : Int32)))] [] (by decide +kernel) rfl ?_
      exact s_lsub (ls' := [some (.inr (.inr x0)), some (.inl x1), some (.inl (x2 + (1 : Int32)))]) ⟨rfl, ⟨rfl, ⟨rfl, trivial⟩⟩⟩ (kk1 (x2 + (1 : Int32)))
    · skip
      exact s_lsub (ls' := [none, none, some (.inl x2)]) ⟨rfl, trivial⟩ (kk2_0 x2)
set_option maxRecDepth 20000 in
theorem L_X7_wordHere_6 {l : Launch} {G : Gv} {lim : Nat × Nat} (M : Mem) (x0 : Nat) (x1 : Int32) (x2 : Int32) (K : ((Int32) ⊕ (Unit)) → Option (Option Value × Mem)) (kk2_0 : ∀ r : Int32, SimR l G Y_X7_wordHere lim (K (.inl r)) 28 [none, none, some (.inl r)] [] M) (kk2_1 : ∀ r : Unit, SimR l G Y_X7_wordHere lim (K (.inr r)) 36 [none, none, none] [] M) : Sim l G Y_X7_wordHere lim (f_X7_wordHere_L6 M x0 x1 x2) K 6 [some (.inr (.inr x0)), some (.inl x1), some (.inl x2)] [] M :=
  s_iter (f := fun s : Int32 => f_X7_wordHere_B6 M x0 x1 s) (hd := 6) (cl := fun s => [some (.inr (.inr x0)), some (.inl x1), some (.inl s)]) (cm := fun s => M) (xp := (fun r => match r with | .inl r => 28 | .inr r => 36)) (xl := (fun r => match r with | .inl r => [none, none, some (.inl r)] | .inr r => [none, none, none])) (xm := (fun r => match r with | .inl r => M | .inr r => M)) (fun s K h1 h2 => B_X7_wordHere_6 M x0 x1 s K (fun a2 => h1 a2) (fun a2 => h2 (.inl a2)) (h2 (.inr ()))) 1048576 x2 K (fun r => by
    rcases r with r | r
    · exact kk2_0 r
    · exact kk2_1 r)
def f_X7_wordHere (M : Mem) (x0 : Nat) (x1 : Int32) : Option (Int32) :=
  (aI M 0 1001 x1).bind fun v1 =>
  ((f_X7_wordHere_L6 M x0 x1 v1).bind fun r2 => match r2 with
  | .inl r2 => some r2
  | .inr r2 => some (-1 : Int32))
set_option maxRecDepth 20000 in
theorem S_X7_wordHere {l : Launch} {G : Gv} {lim : Nat × Nat} (M : Mem) (x0 : Nat) (x1 : Int32) : Sim l G Y_X7_wordHere lim (f_X7_wordHere M x0 x1) (fun z => some (some (.int z), M)) 0 [some (.inr (.inr x0)), some (.inl x1), none] [] M := by
  unfold f_X7_wordHere
  refine s_gs (j := 1) (by decide) q545 (by decide +kernel) ?_
  change Sim l G Y_X7_wordHere lim _ _ 3 [some (.inr (.inr x0)), some (.inl x1), none] [.inr (.inr 1001)] M
  refine s_run (b := [(.iload_n 1, 1)]) 4 [some (.inr (.inr x0)), some (.inl x1), none] [.inl x1, .inr (.inr 1001)] (by decide +kernel) rfl ?_
  refine s_ia (by decide +kernel) (fun v1 => ?_)
  refine s_run (b := [(.istore_n 2, 1)]) 6 [some (.inr (.inr x0)), some (.inl x1), some (.inl v1)] [] (by decide +kernel) rfl ?_
  refine s_lsub (ls' := [some (.inr (.inr x0)), some (.inl x1), some (.inl v1)]) ⟨rfl, ⟨rfl, ⟨rfl, trivial⟩⟩⟩ ?_
  refine sim_bind (L_X7_wordHere_6 M x0 x1 v1 _ (fun r2 => ?_) (fun r2 => ?_))
  · change Sim l G Y_X7_wordHere lim _ _ 28 [none, none, some (.inl r2)] [] M
    refine s_run (b := [(.iload_n 2, 1)]) 29 [none, none, some (.inl r2)] [.inl r2] (by decide +kernel) rfl ?_
    exact s_iret (by decide +kernel) rfl
  · change Sim l G Y_X7_wordHere lim _ _ 36 [none, none, none] [] M
    refine s_run (b := [(.iconst (-1), 1)]) 37 [none, none, none] [.inl (-1 : Int32)] (by decide +kernel) rfl ?_
    exact s_iret (by decide +kernel) rfl
set_option maxRecDepth 20000 in
theorem c_X7_wordHere {l : Launch} {G : Gv} {M : Mem} {x0 : Nat} {x1 : Int32} {z : Int32} (h : f_X7_wordHere M x0 x1 = some z) : MetS l G Y_X7_wordHere [.inr (.inr x0), .inl x1] M (some (.int z)) M :=
  met_of (ls0 := [some (.inr (.inr x0)), some (.inl x1), none]) (by decide) rfl (lv_in (m := 1) rfl) (sl_le (Nat.le_of_ble_eq_true rfl)) (by rw [h]; rfl) (Or.inl ⟨rfl, rfl⟩) (S_X7_wordHere M x0 x1)
def f_X7_readLine_B44 (M : Mem) (x0 : Nat) (x1 : Int32) (x2 : Int32) (x3 : Int32) : Option ((Int32 × Mem) ⊕ ((Mem) ⊕ (Mem))) :=
  (aI M 0 1002 x2).bind fun v1 =>
  (if v1 ≤ x3 then
    some (.inr (.inr M))
  else
    (ob M 7 x0).bind fun _ => (f_X7_takeToken M x0).bind fun z3 =>
    (gI z3 7 x0 8).bind fun v4 =>
    (if v4 = (2 : Int32) then
      (gR z3 7 x0 6).bind fun v6 =>
      (gI z3 7 x0 11).bind fun v7 =>
      (sI z3 0 v6 x3 v7).bind fun M8 =>
      (ob M8 7 x0).bind fun _ => (f_X7_canBe M8 x0 x2 x3).bind fun v9 =>
      (if v9 = 0 then
        (gI M8 7 x0 9).bind fun v11 =>
        (ob M8 7 x0).bind fun _ => (f_X7_mark M8 x0 (2 : Int32) v11).bind fun z12 =>
        some (.inl ((x3 + (1 : Int32)), z12))
      else
        some (.inl ((x3 + (1 : Int32)), M8)))
    else
      some (.inr (.inl z3))))
def f_X7_readLine_L44 (M : Mem) (x0 : Nat) (x1 : Int32) (x2 : Int32) (x3 : Int32) : Option ((Mem) ⊕ (Mem)) := iter (fun s : Int32 × Mem => f_X7_readLine_B44 s.2 x0 x1 x2 s.1) 1048576 (x3, M)
set_option maxRecDepth 20000 in
theorem B_X7_readLine_44 {l : Launch} {G : Gv} {lim : Nat × Nat} (M : Mem) (x0 : Nat) (x1 : Int32) (x2 : Int32) (x3 : Int32) (K : (Int32 × Mem) ⊕ ((Mem) ⊕ (Mem)) → Option (Option Value × Mem)) (kk1 : ∀ (s3 : Int32) (s_ : Mem), SimR l G Y_X7_readLine lim (K (.inl (s3, s_))) 44 [some (.inr (.inr x0)), some (.inl x1), some (.inl x2), some (.inl s3)] [] s_) (kk2_0 : ∀ (s_ : Mem), SimR l G Y_X7_readLine lim (K (.inr (.inl s_))) 65 [none, none, none, none] [] s_) (kk2_1 : ∀ (s_ : Mem), SimR l G Y_X7_readLine lim (K (.inr (.inr s_))) 101 [some (.inr (.inr x0)), some (.inl x1), some (.inl x2), none] [] s_) : Sim l G Y_X7_readLine lim (f_X7_readLine_B44 M x0 x1 x2 x3) K 44 [some (.inr (.inr x0)), some (.inl x1), some (.inl x2), some (.inl x3)] [] M := by
  unfold f_X7_readLine_B44
  refine s_run (b := [(.iload_n 3, 1)]) 45 [some (.inr (.inr x0)), some (.inl x1), some (.inl x2), some (.inl x3)] [.inl x3] (by decide +kernel) rfl ?_
  refine s_gs (j := 2) (by decide) q625 (by decide +kernel) ?_
  change Sim l G Y_X7_readLine lim _ _ 48 [some (.inr (.inr x0)), some (.inl x1), some (.inl x2), some (.inl x3)] [.inr (.inr 1002), .inl x3] M
  refine s_run (b := [(.iload_n 2, 1)]) 49 [some (.inr (.inr x0)), some (.inl x1), some (.inl x2), some (.inl x3)] [.inl x2, .inr (.inr 1002), .inl x3] (by decide +kernel) rfl ?_
  refine s_ia (by decide +kernel) (fun v1 => ?_)
  refine s_ic_ge (tgt := 101) (off := 51) (by decide +kernel) (by decide) (fun h2 => ?_) (fun h2 => ?_)
  · skip
    exact s_lsub (ls' := [some (.inr (.inr x0)), some (.inl x1), some (.inl x2), none]) ⟨rfl, ⟨rfl, ⟨rfl, trivial⟩⟩⟩ (kk2_1 M)
  · skip
    refine s_run (b := [(.aload_n 0, 1)]) 54 [some (.inr (.inr x0)), some (.inl x1), some (.inl x2), some (.inl x3)] [.inr (.inr x0)] (by decide +kernel) rfl ?_
    refine s_cV (Z := Y_X7_takeToken) (c := 7) (vs := []) (st := []) (rO := fun _ => none) (mO := fun z => z) zk_X7_takeToken zi_X7_takeToken q519 rfl ⟨by decide, by decide⟩ ⟨rfl, rfl⟩ rfl rfl (Nat.le_of_ble_eq_true rfl) (by decide +kernel) (fun z hz => c_X7_takeToken hz) (fun z3 => ?_)
    change Sim l G Y_X7_readLine lim _ _ 57 [some (.inr (.inr x0)), some (.inl x1), some (.inl x2), some (.inl x3)] [] z3
    refine s_run (b := [(.aload_n 0, 1)]) 58 [some (.inr (.inr x0)), some (.inl x1), some (.inl x2), some (.inl x3)] [.inr (.inr x0)] (by decide +kernel) rfl ?_
    refine s_gI fl_7_69 rfl (by decide +kernel) (fun v4 => ?_)
    refine s_run (b := [(.iconst 2, 1)]) 62 [some (.inr (.inr x0)), some (.inl x1), some (.inl x2), some (.inl x3)] [.inl (2 : Int32), .inl v4] (by decide +kernel) rfl ?_
    refine s_ic_eq (tgt := 67) (off := 5) (by decide +kernel) (by decide) (fun h5 => ?_) (fun h5 => ?_)
    · skip
      refine s_run (b := [(.aload_n 0, 1)]) 68 [some (.inr (.inr x0)), some (.inl x1), some (.inl x2), some (.inl x3)] [.inr (.inr x0)] (by decide +kernel) rfl ?_
      refine s_gR fl_7_40 rfl (by decide +kernel) (fun v6 => ?_)
      refine s_run (b := [(.iload_n 3, 1), (.aload_n 0, 1)]) 73 [some (.inr (.inr x0)), some (.inl x1), some (.inl x2), some (.inl x3)] [.inr (.inr x0), .inl x3, .inr (.inr v6)] (by decide +kernel) rfl ?_
      refine s_gI fl_7_100 rfl (by decide +kernel) (fun v7 => ?_)
      refine s_is (by decide +kernel) (fun M8 => ?_)
      refine s_run (b := [(.aload_n 0, 1), (.iload_n 2, 1), (.iload_n 3, 1)]) 80 [some (.inr (.inr x0)), some (.inl x1), some (.inl x2), some (.inl x3)] [.inl x3, .inl x2, .inr (.inr x0)] (by decide +kernel) rfl ?_
      refine s_cV (Z := Y_X7_canBe) (c := 7) (vs := [.inl x2, .inl x3]) (st := []) (rO := fun z => some (.inl z)) (mO := fun _ => M8) zk_X7_canBe zi_X7_canBe q627 rfl ⟨by decide, by decide⟩ ⟨rfl, rfl⟩ rfl rfl (Nat.le_of_ble_eq_true rfl) (by decide +kernel) (fun z hz => c_X7_canBe hz) (fun v9 => ?_)
      change Sim l G Y_X7_readLine lim _ _ 83 [some (.inr (.inr x0)), some (.inl x1), some (.inl x2), some (.inl x3)] [.inl v9] M8
      refine s_if_ne (tgt := 95) (off := 12) (by decide +kernel) (by decide) (fun h10 => ?_) (fun h10 => ?_)
      · skip
        refine s_run (b := [(.aload_n 0, 1), (.iconst 2, 1), (.aload_n 0, 1)]) 89 [some (.inr (.inr x0)), some (.inl x1), some (.inl x2), some (.inl x3)] [.inr (.inr x0), .inl (2 : Int32), .inr (.inr x0)] (by decide +kernel) rfl ?_
        refine s_gI fl_7_76 rfl (by decide +kernel) (fun v11 => ?_)
        refine s_cV (Z := Y_X7_mark) (c := 7) (vs := [.inl (2 : Int32), .inl v11]) (st := []) (rO := fun _ => none) (mO := fun z => z) zk_X7_mark zi_X7_mark q621 rfl ⟨by decide, by decide⟩ ⟨rfl, rfl⟩ rfl rfl (Nat.le_of_ble_eq_true rfl) (by decide +kernel) (fun z hz => c_X7_mark hz) (fun z12 => ?_)
        change Sim l G Y_X7_readLine lim _ _ 95 [some (.inr (.inr x0)), some (.inl x1), some (.inl x2), some (.inl x3)] [] z12
        refine s_run (b := [(.iinc 3 1, 3), (.goto (-54), 3)]) 44 [some (.inr (.inr x0)), some (.inl x1), some (.inl x2), some (.inl (x3 + (1 : Int32)))] [] (by decide +kernel) rfl ?_
        exact s_lsub (ls' := [some (.inr (.inr x0)), some (.inl x1), some (.inl x2), some (.inl (x3 + (1 : Int32)))]) ⟨rfl, ⟨rfl, ⟨rfl, ⟨rfl, trivial⟩⟩⟩⟩ (kk1 (x3 + (1 : Int32)) z12)
      · skip
        refine s_run (b := [(.iinc 3 1, 3), (.goto (-54), 3)]) 44 [some (.inr (.inr x0)), some (.inl x1), some (.inl x2), some (.inl (x3 + (1 : Int32)))] [] (by decide +kernel) rfl ?_
        exact s_lsub (ls' := [some (.inr (.inr x0)), some (.inl x1), some (.inl x2), some (.inl (x3 + (1 : Int32)))]) ⟨rfl, ⟨rfl, ⟨rfl, ⟨rfl, trivial⟩⟩⟩⟩ (kk1 (x3 + (1 : Int32)) M8)
    · skip
      exact s_lsub (ls' := [none, none, none, none]) trivial (kk2_0 z3)
set_option maxRecDepth 20000 in
theorem L_X7_readLine_44 {l : Launch} {G : Gv} {lim : Nat × Nat} (M : Mem) (x0 : Nat) (x1 : Int32) (x2 : Int32) (x3 : Int32) (K : ((Mem) ⊕ (Mem)) → Option (Option Value × Mem)) (kk2_0 : ∀ r : Mem, SimR l G Y_X7_readLine lim (K (.inl r)) 65 [none, none, none, none] [] r) (kk2_1 : ∀ r : Mem, SimR l G Y_X7_readLine lim (K (.inr r)) 101 [some (.inr (.inr x0)), some (.inl x1), some (.inl x2), none] [] r) : Sim l G Y_X7_readLine lim (f_X7_readLine_L44 M x0 x1 x2 x3) K 44 [some (.inr (.inr x0)), some (.inl x1), some (.inl x2), some (.inl x3)] [] M :=
  s_iter (f := fun s : Int32 × Mem => f_X7_readLine_B44 s.2 x0 x1 x2 s.1) (hd := 44) (cl := fun s => [some (.inr (.inr x0)), some (.inl x1), some (.inl x2), some (.inl s.1)]) (cm := fun s => s.2) (xp := (fun r => match r with | .inl r => 65 | .inr r => 101)) (xl := (fun r => match r with | .inl r => [none, none, none, none] | .inr r => [some (.inr (.inr x0)), some (.inl x1), some (.inl x2), none])) (xm := (fun r => match r with | .inl r => r | .inr r => r)) (fun s K h1 h2 => B_X7_readLine_44 s.2 x0 x1 x2 s.1 K (fun a3 a_ => h1 (a3, a_)) (fun a_ => h2 (.inl a_)) (fun a_ => h2 (.inr a_))) 1048576 (x3, M) K (fun r => by
    rcases r with r | r
    · exact kk2_0 r
    · exact kk2_1 r)
def f_X7_readLine_J17 (M : Mem) (x0 : Nat) (x1 : Int32) (y0 : Int32) : Option (Int32 × Mem) :=
  (if y0 = (-1 : Int32) then
    some ((0 : Int32), M)
  else
    (ob M 7 x0).bind fun _ => (f_X7_isFull M x0 y0).bind fun v2 =>
    (if v2 = 0 then
      ((f_X7_readLine_L44 M x0 x1 y0 (0 : Int32)).bind fun r4 => match r4 with
      | .inl r4 => some ((0 : Int32), r4)
      | .inr r4 => (ob r4 7 x0).bind fun _ => (f_X7_takeToken r4 x0).bind fun z5 =>
        (gI z5 7 x0 8).bind fun v6 =>
        (if v6 = (3 : Int32) then
          (gI z5 7 x0 3).bind fun v8 =>
          (if v8 = 0 then
            (ob z5 7 x0).bind fun _ => (f_X7_store z5 x0 x1 y0).bind fun z10 =>
            some ((1 : Int32), z10)
          else
            some ((1 : Int32), z5))
        else
          some ((0 : Int32), z5)))
    else
      (gI M 7 x0 9).bind fun v11 =>
      (ob M 7 x0).bind fun _ => (f_X7_mark M x0 (3 : Int32) v11).bind fun z12 =>
      ((f_X7_readLine_L44 z12 x0 x1 y0 (0 : Int32)).bind fun r13 => match r13 with
      | .inl r13 => some ((0 : Int32), r13)
      | .inr r13 => (ob r13 7 x0).bind fun _ => (f_X7_takeToken r13 x0).bind fun z14 =>
        (gI z14 7 x0 8).bind fun v15 =>
        (if v15 = (3 : Int32) then
          (gI z14 7 x0 3).bind fun v17 =>
          (if v17 = 0 then
            (ob z14 7 x0).bind fun _ => (f_X7_store z14 x0 x1 y0).bind fun z19 =>
            some ((1 : Int32), z19)
          else
            some ((1 : Int32), z14))
        else
          some ((0 : Int32), z14)))))
set_option maxRecDepth 20000 in
theorem J_X7_readLine_17 {l : Launch} {G : Gv} {lim : Nat × Nat} (M : Mem) (x0 : Nat) (x1 : Int32) (y0 : Int32)  : Sim l G Y_X7_readLine lim (f_X7_readLine_J17 M x0 x1 y0) (fun z => some (some (.int z.1), z.2)) 17 [some (.inr (.inr x0)), some (.inl x1), none, none] [.inl y0] M := by
  unfold f_X7_readLine_J17
  refine s_run (b := [(.istore_n 2, 1), (.iload_n 2, 1), (.iconst (-1), 1)]) 20 [some (.inr (.inr x0)), some (.inl x1), some (.inl y0), none] [.inl (-1 : Int32), .inl y0] (by decide +kernel) rfl ?_
  refine s_ic_ne (tgt := 25) (off := 5) (by decide +kernel) (by decide) (fun h1 => ?_) (fun h1 => ?_)
  · skip
    refine s_run (b := [(.iconst 0, 1)]) 24 [some (.inr (.inr x0)), some (.inl x1), some (.inl y0), none] [.inl (0 : Int32)] (by decide +kernel) rfl ?_
    exact s_bret (Or.inl rfl) (by decide +kernel) rfl
  · skip
    refine s_run (b := [(.aload_n 0, 1), (.iload_n 2, 1)]) 27 [some (.inr (.inr x0)), some (.inl x1), some (.inl y0), none] [.inl y0, .inr (.inr x0)] (by decide +kernel) rfl ?_
    refine s_cV (Z := Y_X7_isFull) (c := 7) (vs := [.inl y0]) (st := []) (rO := fun z => some (.inl z)) (mO := fun _ => M) zk_X7_isFull zi_X7_isFull q617 rfl ⟨by decide, by decide⟩ ⟨rfl, rfl⟩ rfl rfl (Nat.le_of_ble_eq_true rfl) (by decide +kernel) (fun z hz => c_X7_isFull hz) (fun v2 => ?_)
    change Sim l G Y_X7_readLine lim _ _ 30 [some (.inr (.inr x0)), some (.inl x1), some (.inl y0), none] [.inl v2] M
    refine s_if_eq (tgt := 42) (off := 12) (by decide +kernel) (by decide) (fun h3 => ?_) (fun h3 => ?_)
    · skip
      refine s_run (b := [(.iconst 0, 1), (.istore_n 3, 1)]) 44 [some (.inr (.inr x0)), some (.inl x1), some (.inl y0), some (.inl (0 : Int32))] [] (by decide +kernel) rfl ?_
      refine s_lsub (ls' := [some (.inr (.inr x0)), some (.inl x1), some (.inl y0), some (.inl (0 : Int32))]) ⟨rfl, ⟨rfl, ⟨rfl, ⟨rfl, trivial⟩⟩⟩⟩ ?_
      refine sim_bind (L_X7_readLine_44 M x0 x1 y0 (0 : Int32) _ (fun r4 => ?_) (fun r4 => ?_))
      · change Sim l G Y_X7_readLine lim _ _ 65 [none, none, none, none] [] r4
        refine s_run (b := [(.iconst 0, 1)]) 66 [none, none, none, none] [.inl (0 : Int32)] (by decide +kernel) rfl ?_
        exact s_bret (Or.inl rfl) (by decide +kernel) rfl
      · change Sim l G Y_X7_readLine lim _ _ 101 [some (.inr (.inr x0)), some (.inl x1), some (.inl y0), none] [] r4
        refine s_run (b := [(.aload_n 0, 1)]) 102 [some (.inr (.inr x0)), some (.inl x1), some (.inl y0), none] [.inr (.inr x0)] (by decide +kernel) rfl ?_
        refine s_cV (Z := Y_X7_takeToken) (c := 7) (vs := []) (st := []) (rO := fun _ => none) (mO := fun z => z) zk_X7_takeToken zi_X7_takeToken q519 rfl ⟨by decide, by decide⟩ ⟨rfl, rfl⟩ rfl rfl (Nat.le_of_ble_eq_true rfl) (by decide +kernel) (fun z hz => c_X7_takeToken hz) (fun z5 => ?_)
        change Sim l G Y_X7_readLine lim _ _ 105 [some (.inr (.inr x0)), some (.inl x1), some (.inl y0), none] [] z5
        refine s_run (b := [(.aload_n 0, 1)]) 106 [some (.inr (.inr x0)), some (.inl x1), some (.inl y0), none] [.inr (.inr x0)] (by decide +kernel) rfl ?_
        refine s_gI fl_7_69 rfl (by decide +kernel) (fun v6 => ?_)
        refine s_run (b := [(.iconst 3, 1)]) 110 [some (.inr (.inr x0)), some (.inl x1), some (.inl y0), none] [.inl (3 : Int32), .inl v6] (by decide +kernel) rfl ?_
        refine s_ic_eq (tgt := 115) (off := 5) (by decide +kernel) (by decide) (fun h7 => ?_) (fun h7 => ?_)
        · skip
          refine s_run (b := [(.aload_n 0, 1)]) 116 [some (.inr (.inr x0)), some (.inl x1), some (.inl y0), none] [.inr (.inr x0)] (by decide +kernel) rfl ?_
          refine s_gI fl_7_56 rfl (by decide +kernel) (fun v8 => ?_)
          refine s_if_ne (tgt := 128) (off := 9) (by decide +kernel) (by decide) (fun h9 => ?_) (fun h9 => ?_)
          · skip
            refine s_run (b := [(.aload_n 0, 1), (.iload_n 1, 1), (.iload_n 2, 1)]) 125 [some (.inr (.inr x0)), some (.inl x1), some (.inl y0), none] [.inl y0, .inl x1, .inr (.inr x0)] (by decide +kernel) rfl ?_
            refine s_cV (Z := Y_X7_store) (c := 7) (vs := [.inl x1, .inl y0]) (st := []) (rO := fun _ => none) (mO := fun z => z) zk_X7_store zi_X7_store q645 rfl ⟨by decide, by decide⟩ ⟨rfl, rfl⟩ rfl rfl (Nat.le_of_ble_eq_true rfl) (by decide +kernel) (fun z hz => c_X7_store hz) (fun z10 => ?_)
            change Sim l G Y_X7_readLine lim _ _ 128 [some (.inr (.inr x0)), some (.inl x1), some (.inl y0), none] [] z10
            refine s_run (b := [(.iconst 1, 1)]) 129 [some (.inr (.inr x0)), some (.inl x1), some (.inl y0), none] [.inl (1 : Int32)] (by decide +kernel) rfl ?_
            exact s_bret (Or.inr rfl) (by decide +kernel) rfl
          · skip
            refine s_run (b := [(.iconst 1, 1)]) 129 [some (.inr (.inr x0)), some (.inl x1), some (.inl y0), none] [.inl (1 : Int32)] (by decide +kernel) rfl ?_
            exact s_bret (Or.inr rfl) (by decide +kernel) rfl
        · skip
          refine s_run (b := [(.iconst 0, 1)]) 114 [some (.inr (.inr x0)), some (.inl x1), some (.inl y0), none] [.inl (0 : Int32)] (by decide +kernel) rfl ?_
          exact s_bret (Or.inl rfl) (by decide +kernel) rfl
    · skip
      refine s_run (b := [(.aload_n 0, 1), (.iconst 3, 1), (.aload_n 0, 1)]) 36 [some (.inr (.inr x0)), some (.inl x1), some (.inl y0), none] [.inr (.inr x0), .inl (3 : Int32), .inr (.inr x0)] (by decide +kernel) rfl ?_
      refine s_gI fl_7_76 rfl (by decide +kernel) (fun v11 => ?_)
      refine s_cV (Z := Y_X7_mark) (c := 7) (vs := [.inl (3 : Int32), .inl v11]) (st := []) (rO := fun _ => none) (mO := fun z => z) zk_X7_mark zi_X7_mark q621 rfl ⟨by decide, by decide⟩ ⟨rfl, rfl⟩ rfl rfl (Nat.le_of_ble_eq_true rfl) (by decide +kernel) (fun z hz => c_X7_mark hz) (fun z12 => ?_)
      change Sim l G Y_X7_readLine lim _ _ 42 [some (.inr (.inr x0)), some (.inl x1), some (.inl y0), none] [] z12
      refine s_run (b := [(.iconst 0, 1), (.istore_n 3, 1)]) 44 [some (.inr (.inr x0)), some (.inl x1), some (.inl y0), some (.inl (0 : Int32))] [] (by decide +kernel) rfl ?_
      refine s_lsub (ls' := [some (.inr (.inr x0)), some (.inl x1), some (.inl y0), some (.inl (0 : Int32))]) ⟨rfl, ⟨rfl, ⟨rfl, ⟨rfl, trivial⟩⟩⟩⟩ ?_
      refine sim_bind (L_X7_readLine_44 z12 x0 x1 y0 (0 : Int32) _ (fun r13 => ?_) (fun r13 => ?_))
      · change Sim l G Y_X7_readLine lim _ _ 65 [none, none, none, none] [] r13
        refine s_run (b := [(.iconst 0, 1)]) 66 [none, none, none, none] [.inl (0 : Int32)] (by decide +kernel) rfl ?_
        exact s_bret (Or.inl rfl) (by decide +kernel) rfl
      · change Sim l G Y_X7_readLine lim _ _ 101 [some (.inr (.inr x0)), some (.inl x1), some (.inl y0), none] [] r13
        refine s_run (b := [(.aload_n 0, 1)]) 102 [some (.inr (.inr x0)), some (.inl x1), some (.inl y0), none] [.inr (.inr x0)] (by decide +kernel) rfl ?_
        refine s_cV (Z := Y_X7_takeToken) (c := 7) (vs := []) (st := []) (rO := fun _ => none) (mO := fun z => z) zk_X7_takeToken zi_X7_takeToken q519 rfl ⟨by decide, by decide⟩ ⟨rfl, rfl⟩ rfl rfl (Nat.le_of_ble_eq_true rfl) (by decide +kernel) (fun z hz => c_X7_takeToken hz) (fun z14 => ?_)
        change Sim l G Y_X7_readLine lim _ _ 105 [some (.inr (.inr x0)), some (.inl x1), some (.inl y0), none] [] z14
        refine s_run (b := [(.aload_n 0, 1)]) 106 [some (.inr (.inr x0)), some (.inl x1), some (.inl y0), none] [.inr (.inr x0)] (by decide +kernel) rfl ?_
        refine s_gI fl_7_69 rfl (by decide +kernel) (fun v15 => ?_)
        refine s_run (b := [(.iconst 3, 1)]) 110 [some (.inr (.inr x0)), some (.inl x1), some (.inl y0), none] [.inl (3 : Int32), .inl v15] (by decide +kernel) rfl ?_
        refine s_ic_eq (tgt := 115) (off := 5) (by decide +kernel) (by decide) (fun h16 => ?_) (fun h16 => ?_)
        · skip
          refine s_run (b := [(.aload_n 0, 1)]) 116 [some (.inr (.inr x0)), some (.inl x1), some (.inl y0), none] [.inr (.inr x0)] (by decide +kernel) rfl ?_
          refine s_gI fl_7_56 rfl (by decide +kernel) (fun v17 => ?_)
          refine s_if_ne (tgt := 128) (off := 9) (by decide +kernel) (by decide) (fun h18 => ?_) (fun h18 => ?_)
          · skip
            refine s_run (b := [(.aload_n 0, 1), (.iload_n 1, 1), (.iload_n 2, 1)]) 125 [some (.inr (.inr x0)), some (.inl x1), some (.inl y0), none] [.inl y0, .inl x1, .inr (.inr x0)] (by decide +kernel) rfl ?_
            refine s_cV (Z := Y_X7_store) (c := 7) (vs := [.inl x1, .inl y0]) (st := []) (rO := fun _ => none) (mO := fun z => z) zk_X7_store zi_X7_store q645 rfl ⟨by decide, by decide⟩ ⟨rfl, rfl⟩ rfl rfl (Nat.le_of_ble_eq_true rfl) (by decide +kernel) (fun z hz => c_X7_store hz) (fun z19 => ?_)
            change Sim l G Y_X7_readLine lim _ _ 128 [some (.inr (.inr x0)), some (.inl x1), some (.inl y0), none] [] z19
            refine s_run (b := [(.iconst 1, 1)]) 129 [some (.inr (.inr x0)), some (.inl x1), some (.inl y0), none] [.inl (1 : Int32)] (by decide +kernel) rfl ?_
            exact s_bret (Or.inr rfl) (by decide +kernel) rfl
          · skip
            refine s_run (b := [(.iconst 1, 1)]) 129 [some (.inr (.inr x0)), some (.inl x1), some (.inl y0), none] [.inl (1 : Int32)] (by decide +kernel) rfl ?_
            exact s_bret (Or.inr rfl) (by decide +kernel) rfl
        · skip
          refine s_run (b := [(.iconst 0, 1)]) 114 [some (.inr (.inr x0)), some (.inl x1), some (.inl y0), none] [.inl (0 : Int32)] (by decide +kernel) rfl ?_
          exact s_bret (Or.inl rfl) (by decide +kernel) rfl
def f_X7_readLine (M : Mem) (x0 : Nat) (x1 : Int32) : Option (Int32 × Mem) :=
  (gI M 7 x0 8).bind fun v1 =>
  (if v1 = (1 : Int32) then
    (ob M 7 x0).bind fun _ => (f_X7_wordHere M x0 x1).bind fun v3 =>
    f_X7_readLine_J17 M x0 x1 v3
  else
    f_X7_readLine_J17 M x0 x1 (-1 : Int32))
set_option maxRecDepth 20000 in
theorem S_X7_readLine {l : Launch} {G : Gv} {lim : Nat × Nat} (M : Mem) (x0 : Nat) (x1 : Int32) : Sim l G Y_X7_readLine lim (f_X7_readLine M x0 x1) (fun z => some (some (.int z.1), z.2)) 0 [some (.inr (.inr x0)), some (.inl x1), none, none] [] M := by
  unfold f_X7_readLine
  refine s_run (b := [(.aload_n 0, 1)]) 1 [some (.inr (.inr x0)), some (.inl x1), none, none] [.inr (.inr x0)] (by decide +kernel) rfl ?_
  refine s_gI fl_7_69 rfl (by decide +kernel) (fun v1 => ?_)
  refine s_run (b := [(.iconst 1, 1)]) 5 [some (.inr (.inr x0)), some (.inl x1), none, none] [.inl (1 : Int32), .inl v1] (by decide +kernel) rfl ?_
  refine s_ic_ne (tgt := 16) (off := 11) (by decide +kernel) (by decide) (fun h2 => ?_) (fun h2 => ?_)
  · skip
    refine s_run (b := [(.aload_n 0, 1), (.iload_n 1, 1)]) 10 [some (.inr (.inr x0)), some (.inl x1), none, none] [.inl x1, .inr (.inr x0)] (by decide +kernel) rfl ?_
    refine s_cV (Z := Y_X7_wordHere) (c := 7) (vs := [.inl x1]) (st := []) (rO := fun z => some (.inl z)) (mO := fun _ => M) zk_X7_wordHere zi_X7_wordHere q541 rfl ⟨by decide, by decide⟩ ⟨rfl, rfl⟩ rfl rfl (Nat.le_of_ble_eq_true rfl) (by decide +kernel) (fun z hz => c_X7_wordHere hz) (fun v3 => ?_)
    change Sim l G Y_X7_readLine lim _ _ 13 [some (.inr (.inr x0)), some (.inl x1), none, none] [.inl v3] M
    refine s_run (b := [(.goto 4, 3)]) 17 [some (.inr (.inr x0)), some (.inl x1), none, none] [.inl v3] (by decide +kernel) rfl ?_
    exact s_lsub (ls' := [some (.inr (.inr x0)), some (.inl x1), none, none]) ⟨rfl, ⟨rfl, trivial⟩⟩ (J_X7_readLine_17 M x0 x1 v3)
  · skip
    refine s_run (b := [(.iconst (-1), 1)]) 17 [some (.inr (.inr x0)), some (.inl x1), none, none] [.inl (-1 : Int32)] (by decide +kernel) rfl ?_
    exact s_lsub (ls' := [some (.inr (.inr x0)), some (.inl x1), none, none]) ⟨rfl, ⟨rfl, trivial⟩⟩ (J_X7_readLine_17 M x0 x1 (-1 : Int32))
set_option maxRecDepth 20000 in
theorem c_X7_readLine {l : Launch} {G : Gv} {M : Mem} {x0 : Nat} {x1 : Int32} {z : Int32 × Mem} (h : f_X7_readLine M x0 x1 = some z) : MetS l G Y_X7_readLine [.inr (.inr x0), .inl x1] M (some (.int z.1)) z.2 :=
  met_of (ls0 := [some (.inr (.inr x0)), some (.inl x1), none, none]) (by decide) rfl (lv_in (m := 2) rfl) (sl_le (Nat.le_of_ble_eq_true rfl)) (by rw [h]; rfl) (Or.inl ⟨rfl, rfl⟩) (S_X7_readLine M x0 x1)
def f_X7_readText_B56 (M : Mem) (x0 : Nat) (x1 : Int32) (x4 : Int32) : Option ((Int32 × Mem) ⊕ ((Mem) ⊕ (Mem) ⊕ (Mem))) :=
  (gI M 7 x0 7).bind fun v1 =>
  (if v1 < x4 then
    some (.inr (.inr (.inr M)))
  else
    (ob M 7 x0).bind fun _ => (f_X7_takeToken M x0).bind fun z3 =>
    (gI z3 7 x0 8).bind fun v4 =>
    (if v4 = 0 then
      some (.inr (.inl z3))
    else
      (ob z3 7 x0).bind fun _ => (f_X7_readLine z3 x0 x1).bind fun z6 =>
      (if z6.1 = 0 then
        some (.inr (.inr (.inl z6.2)))
      else
        some (.inl ((x4 + (1 : Int32)), z6.2)))))
def f_X7_readText_L56 (M : Mem) (x0 : Nat) (x1 : Int32) (x4 : Int32) : Option ((Mem) ⊕ (Mem) ⊕ (Mem)) := iter (fun s : Int32 × Mem => f_X7_readText_B56 s.2 x0 x1 s.1) 1048576 (x4, M)
set_option maxRecDepth 20000 in
theorem B_X7_readText_56 {l : Launch} {G : Gv} {lim : Nat × Nat} (M : Mem) (x0 : Nat) (x1 : Int32) (x4 : Int32) (K : (Int32 × Mem) ⊕ ((Mem) ⊕ (Mem) ⊕ (Mem)) → Option (Option Value × Mem)) (kk1 : ∀ (s4 : Int32) (s_ : Mem), SimR l G Y_X7_readText lim (K (.inl (s4, s_))) 56 [some (.inr (.inr x0)), some (.inl x1), none, none, some (.inl s4)] [] s_) (kk2_0 : ∀ (s_ : Mem), SimR l G Y_X7_readText lim (K (.inr (.inl s_))) 76 [some (.inr (.inr x0)), some (.inl x1), none, none, none] [] s_) (kk2_1 : ∀ (s_ : Mem), SimR l G Y_X7_readText lim (K (.inr (.inr (.inl s_)))) 87 [some (.inr (.inr x0)), none, none, none, none] [] s_) (kk2_2 : ∀ (s_ : Mem), SimR l G Y_X7_readText lim (K (.inr (.inr (.inr s_)))) 107 [some (.inr (.inr x0)), some (.inl x1), none, none, none] [] s_) : Sim l G Y_X7_readText lim (f_X7_readText_B56 M x0 x1 x4) K 56 [some (.inr (.inr x0)), some (.inl x1), none, none, some (.inl x4)] [] M := by
  unfold f_X7_readText_B56
  refine s_run (b := [(.iload 4, 2), (.aload_n 0, 1)]) 59 [some (.inr (.inr x0)), some (.inl x1), none, none, some (.inl x4)] [.inr (.inr x0), .inl x4] (by decide +kernel) rfl ?_
  refine s_gI fl_7_50 rfl (by decide +kernel) (fun v1 => ?_)
  refine s_ic_gt (tgt := 107) (off := 45) (by decide +kernel) (by decide) (fun h2 => ?_) (fun h2 => ?_)
  · skip
    exact s_lsub (ls' := [some (.inr (.inr x0)), some (.inl x1), none, none, none]) ⟨rfl, ⟨rfl, trivial⟩⟩ (kk2_2 M)
  · skip
    refine s_run (b := [(.aload_n 0, 1)]) 66 [some (.inr (.inr x0)), some (.inl x1), none, none, some (.inl x4)] [.inr (.inr x0)] (by decide +kernel) rfl ?_
    refine s_cV (Z := Y_X7_takeToken) (c := 7) (vs := []) (st := []) (rO := fun _ => none) (mO := fun z => z) zk_X7_takeToken zi_X7_takeToken q519 rfl ⟨by decide, by decide⟩ ⟨rfl, rfl⟩ rfl rfl (Nat.le_of_ble_eq_true rfl) (by decide +kernel) (fun z hz => c_X7_takeToken hz) (fun z3 => ?_)
    change Sim l G Y_X7_readText lim _ _ 69 [some (.inr (.inr x0)), some (.inl x1), none, none, some (.inl x4)] [] z3
    refine s_run (b := [(.aload_n 0, 1)]) 70 [some (.inr (.inr x0)), some (.inl x1), none, none, some (.inl x4)] [.inr (.inr x0)] (by decide +kernel) rfl ?_
    refine s_gI fl_7_69 rfl (by decide +kernel) (fun v4 => ?_)
    refine s_if_ne (tgt := 79) (off := 6) (by decide +kernel) (by decide) (fun h5 => ?_) (fun h5 => ?_)
    · skip
      exact s_lsub (ls' := [some (.inr (.inr x0)), some (.inl x1), none, none, none]) ⟨rfl, ⟨rfl, trivial⟩⟩ (kk2_0 z3)
    · skip
      refine s_run (b := [(.aload_n 0, 1), (.iload_n 1, 1)]) 81 [some (.inr (.inr x0)), some (.inl x1), none, none, some (.inl x4)] [.inl x1, .inr (.inr x0)] (by decide +kernel) rfl ?_
      refine s_cV (Z := Y_X7_readLine) (c := 7) (vs := [.inl x1]) (st := []) (rO := fun z => some (.inl z.1)) (mO := fun z => z.2) zk_X7_readLine zi_X7_readLine q537 rfl ⟨by decide, by decide⟩ ⟨rfl, rfl⟩ rfl rfl (Nat.le_of_ble_eq_true rfl) (by decide +kernel) (fun z hz => c_X7_readLine hz) (fun z6 => ?_)
      change Sim l G Y_X7_readText lim _ _ 84 [some (.inr (.inr x0)), some (.inl x1), none, none, some (.inl x4)] [.inl z6.1] z6.2
      refine s_if_ne (tgt := 101) (off := 17) (by decide +kernel) (by decide) (fun h7 => ?_) (fun h7 => ?_)
      · skip
        exact s_lsub (ls' := [some (.inr (.inr x0)), none, none, none, none]) ⟨rfl, trivial⟩ (kk2_1 z6.2)
      · skip
        refine s_run (b := [(.iinc 4 1, 3), (.goto (-48), 3)]) 56 [some (.inr (.inr x0)), some (.inl x1), none, none, some (.inl (x4 + (1 : Int32)))] [] (by decide +kernel) rfl ?_
        exact s_lsub (ls' := [some (.inr (.inr x0)), some (.inl x1), none, none, some (.inl (x4 + (1 : Int32)))]) ⟨rfl, ⟨rfl, ⟨rfl, trivial⟩⟩⟩ (kk1 (x4 + (1 : Int32)) z6.2)
set_option maxRecDepth 20000 in
theorem L_X7_readText_56 {l : Launch} {G : Gv} {lim : Nat × Nat} (M : Mem) (x0 : Nat) (x1 : Int32) (x4 : Int32) (K : ((Mem) ⊕ (Mem) ⊕ (Mem)) → Option (Option Value × Mem)) (kk2_0 : ∀ r : Mem, SimR l G Y_X7_readText lim (K (.inl r)) 76 [some (.inr (.inr x0)), some (.inl x1), none, none, none] [] r) (kk2_1 : ∀ r : Mem, SimR l G Y_X7_readText lim (K (.inr (.inl r))) 87 [some (.inr (.inr x0)), none, none, none, none] [] r) (kk2_2 : ∀ r : Mem, SimR l G Y_X7_readText lim (K (.inr (.inr r))) 107 [some (.inr (.inr x0)), some (.inl x1), none, none, none] [] r) : Sim l G Y_X7_readText lim (f_X7_readText_L56 M x0 x1 x4) K 56 [some (.inr (.inr x0)), some (.inl x1), none, none, some (.inl x4)] [] M :=
  s_iter (f := fun s : Int32 × Mem => f_X7_readText_B56 s.2 x0 x1 s.1) (hd := 56) (cl := fun s => [some (.inr (.inr x0)), some (.inl x1), none, none, some (.inl s.1)]) (cm := fun s => s.2) (xp := (fun r => match r with | .inl r => 76 | .inr (.inl r) => 87 | .inr (.inr r) => 107)) (xl := (fun r => match r with | .inl r => [some (.inr (.inr x0)), some (.inl x1), none, none, none] | .inr (.inl r) => [some (.inr (.inr x0)), none, none, none, none] | .inr (.inr r) => [some (.inr (.inr x0)), some (.inl x1), none, none, none])) (xm := (fun r => match r with | .inl r => r | .inr (.inl r) => r | .inr (.inr r) => r)) (fun s K h1 h2 => B_X7_readText_56 s.2 x0 x1 s.1 K (fun a4 a_ => h1 (a4, a_)) (fun a_ => h2 (.inl a_)) (fun a_ => h2 (.inr (.inl a_))) (fun a_ => h2 (.inr (.inr a_)))) 1048576 (x4, M) K (fun r => by
    rcases r with r | r | r
    · exact kk2_0 r
    · exact kk2_1 r
    · exact kk2_2 r)
def f_X7_readText_J107 (M : Mem) (x0 : Nat) (x1 : Int32)  : Option (Mem) :=
  (if x1 = 0 then
    (gR M 7 x0 0).bind fun v2 =>
    (ob M 5 v2).bind fun _ => (f_X5_measure M v2).bind fun z3 =>
    (gR z3 7 x0 0).bind fun v4 =>
    (ob z3 5 v4).bind fun _ => (f_X5_callsHaveDesks z3 v4).bind fun v5 =>
    (if v5 = 0 then
      (gI z3 7 x0 7).bind fun v7 =>
      (ob z3 7 x0).bind fun _ => (f_X7_mark z3 x0 (4 : Int32) v7).bind fun z8 =>
      some z8
    else
      some z3)
  else
    some M)
set_option maxRecDepth 20000 in
theorem J_X7_readText_107 {l : Launch} {G : Gv} {lim : Nat × Nat} (M : Mem) (x0 : Nat) (x1 : Int32)   : Sim l G Y_X7_readText lim (f_X7_readText_J107 M x0 x1) (fun z => some (none, z)) 107 [some (.inr (.inr x0)), some (.inl x1), none, none, none] [] M := by
  unfold f_X7_readText_J107
  refine s_run (b := [(.iload_n 1, 1)]) 108 [some (.inr (.inr x0)), some (.inl x1), none, none, none] [.inl x1] (by decide +kernel) rfl ?_
  refine s_if_ne (tgt := 137) (off := 29) (by decide +kernel) (by decide) (fun h1 => ?_) (fun h1 => ?_)
  · skip
    refine s_run (b := [(.aload_n 0, 1)]) 112 [some (.inr (.inr x0)), some (.inl x1), none, none, none] [.inr (.inr x0)] (by decide +kernel) rfl ?_
    refine s_gR fl_7_12 rfl (by decide +kernel) (fun v2 => ?_)
    refine s_cV (Z := Y_X5_measure) (c := 5) (vs := []) (st := []) (rO := fun _ => none) (mO := fun z => z) zk_X5_measure zi_X5_measure q669 rfl ⟨by decide, by decide⟩ ⟨rfl, rfl⟩ rfl rfl (Nat.le_of_ble_eq_true rfl) (by decide +kernel) (fun z hz => c_X5_measure hz) (fun z3 => ?_)
    change Sim l G Y_X7_readText lim _ _ 118 [some (.inr (.inr x0)), some (.inl x1), none, none, none] [] z3
    refine s_run (b := [(.aload_n 0, 1)]) 119 [some (.inr (.inr x0)), some (.inl x1), none, none, none] [.inr (.inr x0)] (by decide +kernel) rfl ?_
    refine s_gR fl_7_12 rfl (by decide +kernel) (fun v4 => ?_)
    refine s_cV (Z := Y_X5_callsHaveDesks) (c := 5) (vs := []) (st := []) (rO := fun z => some (.inl z)) (mO := fun _ => z3) zk_X5_callsHaveDesks zi_X5_callsHaveDesks q676 rfl ⟨by decide, by decide⟩ ⟨rfl, rfl⟩ rfl rfl (Nat.le_of_ble_eq_true rfl) (by decide +kernel) (fun z hz => c_X5_callsHaveDesks hz) (fun v5 => ?_)
    change Sim l G Y_X7_readText lim _ _ 125 [some (.inr (.inr x0)), some (.inl x1), none, none, none] [.inl v5] z3
    refine s_if_ne (tgt := 137) (off := 12) (by decide +kernel) (by decide) (fun h6 => ?_) (fun h6 => ?_)
    · skip
      refine s_run (b := [(.aload_n 0, 1), (.iconst 4, 1), (.aload_n 0, 1)]) 131 [some (.inr (.inr x0)), some (.inl x1), none, none, none] [.inr (.inr x0), .inl (4 : Int32), .inr (.inr x0)] (by decide +kernel) rfl ?_
      refine s_gI fl_7_50 rfl (by decide +kernel) (fun v7 => ?_)
      refine s_cV (Z := Y_X7_mark) (c := 7) (vs := [.inl (4 : Int32), .inl v7]) (st := []) (rO := fun _ => none) (mO := fun z => z) zk_X7_mark zi_X7_mark q621 rfl ⟨by decide, by decide⟩ ⟨rfl, rfl⟩ rfl rfl (Nat.le_of_ble_eq_true rfl) (by decide +kernel) (fun z hz => c_X7_mark hz) (fun z8 => ?_)
      change Sim l G Y_X7_readText lim _ _ 137 [some (.inr (.inr x0)), some (.inl x1), none, none, none] [] z8
      exact s_vret (by decide +kernel) rfl
    · skip
      exact s_vret (by decide +kernel) rfl
  · skip
    exact s_vret (by decide +kernel) rfl
def f_X7_readText (M : Mem) (x0 : Nat) (x1 : Int32) (x2 : Nat) (x3 : Int32) : Option (Mem) :=
  (pR M 7 x0 5 x2).bind fun M1 =>
  (lnA M1 1 x2).bind fun v2 =>
  (pI M1 7 x0 7 (imin x3 v2)).bind fun M3 =>
  (pI M3 7 x0 10 (0 : Int32)).bind fun M4 =>
  (pI M4 7 x0 3 (0 : Int32)).bind fun M5 =>
  (pI M5 7 x0 4 (-1 : Int32)).bind fun M6 =>
  (gR M6 7 x0 0).bind fun v7 =>
  (ob M6 5 v7).bind fun _ => (f_X5_clear M6 v7).bind fun z8 =>
  (gR z8 7 x0 1).bind fun v9 =>
  (pI z8 1 v9 0 (0 : Int32)).bind fun M10 =>
  (gR M10 7 x0 2).bind fun v11 =>
  (pI M10 4 v11 0 (0 : Int32)).bind fun M12 =>
  ((f_X7_readText_L56 M12 x0 x1 (0 : Int32)).bind fun r13 => match r13 with
  | .inl r13 => f_X7_readText_J107 r13 x0 x1 
  | .inr (.inl r13) => (pI r13 7 x0 3 (1 : Int32)).bind fun M14 =>
    (gI M14 7 x0 9).bind fun v15 =>
    (pI M14 7 x0 4 v15).bind fun M16 =>
    some M16
  | .inr (.inr r13) => f_X7_readText_J107 r13 x0 x1 )
set_option maxRecDepth 20000 in
theorem S_X7_readText {l : Launch} {G : Gv} {lim : Nat × Nat} (M : Mem) (x0 : Nat) (x1 : Int32) (x2 : Nat) (x3 : Int32) : Sim l G Y_X7_readText lim (f_X7_readText M x0 x1 x2 x3) (fun z => some (none, z)) 0 [some (.inr (.inr x0)), some (.inl x1), some (.inr (.inr x2)), some (.inl x3), none] [] M := by
  unfold f_X7_readText
  refine s_run (b := [(.aload_n 0, 1), (.aload_n 2, 1)]) 2 [some (.inr (.inr x0)), some (.inl x1), some (.inr (.inr x2)), some (.inl x3), none] [.inr (.inr x2), .inr (.inr x0)] (by decide +kernel) rfl ?_
  refine s_pR fl_7_36 (Or.inr ⟨_, rfl⟩) (Or.inl rfl) rfl (by decide +kernel) (fun M1 => ?_)
  refine s_run (b := [(.aload_n 0, 1), (.iload_n 3, 1), (.aload_n 2, 1)]) 8 [some (.inr (.inr x0)), some (.inl x1), some (.inr (.inr x2)), some (.inl x3), none] [.inr (.inr x2), .inl x3, .inr (.inr x0)] (by decide +kernel) rfl ?_
  refine s_lnA (by decide) (by decide +kernel) (fun v2 => ?_)
  refine s_imin q515 ⟨Nat.le_of_ble_eq_true rfl, Nat.le_of_ble_eq_true rfl⟩ (by decide +kernel) ?_
  change Sim l G Y_X7_readText lim _ _ 12 [some (.inr (.inr x0)), some (.inl x1), some (.inr (.inr x2)), some (.inl x3), none] [.inl (imin x3 v2), .inr (.inr x0)] M1
  refine s_pI fl_7_50 (Or.inl rfl) rfl (by decide +kernel) (fun M3 => ?_)
  refine s_run (b := [(.aload_n 0, 1), (.iconst 0, 1)]) 17 [some (.inr (.inr x0)), some (.inl x1), some (.inr (.inr x2)), some (.inl x3), none] [.inl (0 : Int32), .inr (.inr x0)] (by decide +kernel) rfl ?_
  refine s_pI fl_7_53 (Or.inl rfl) rfl (by decide +kernel) (fun M4 => ?_)
  refine s_run (b := [(.aload_n 0, 1), (.iconst 0, 1)]) 22 [some (.inr (.inr x0)), some (.inl x1), some (.inr (.inr x2)), some (.inl x3), none] [.inl (0 : Int32), .inr (.inr x0)] (by decide +kernel) rfl ?_
  refine s_pI fl_7_56 (Or.inl rfl) rfl (by decide +kernel) (fun M5 => ?_)
  refine s_run (b := [(.aload_n 0, 1), (.iconst (-1), 1)]) 27 [some (.inr (.inr x0)), some (.inl x1), some (.inr (.inr x2)), some (.inl x3), none] [.inl (-1 : Int32), .inr (.inr x0)] (by decide +kernel) rfl ?_
  refine s_pI fl_7_32 (Or.inl rfl) rfl (by decide +kernel) (fun M6 => ?_)
  refine s_run (b := [(.aload_n 0, 1)]) 31 [some (.inr (.inr x0)), some (.inl x1), some (.inr (.inr x2)), some (.inl x3), none] [.inr (.inr x0)] (by decide +kernel) rfl ?_
  refine s_gR fl_7_12 rfl (by decide +kernel) (fun v7 => ?_)
  refine s_cV (Z := Y_X5_clear) (c := 5) (vs := []) (st := []) (rO := fun _ => none) (mO := fun z => z) zk_X5_clear zi_X5_clear q518 rfl ⟨by decide, by decide⟩ ⟨rfl, rfl⟩ rfl rfl (Nat.le_of_ble_eq_true rfl) (by decide +kernel) (fun z hz => c_X5_clear hz) (fun z8 => ?_)
  change Sim l G Y_X7_readText lim _ _ 37 [some (.inr (.inr x0)), some (.inl x1), some (.inr (.inr x2)), some (.inl x3), none] [] z8
  refine s_run (b := [(.aload_n 0, 1)]) 38 [some (.inr (.inr x0)), some (.inl x1), some (.inr (.inr x2)), some (.inl x3), none] [.inr (.inr x0)] (by decide +kernel) rfl ?_
  refine s_gR fl_7_21 rfl (by decide +kernel) (fun v9 => ?_)
  refine s_run (b := [(.iconst 0, 1)]) 42 [some (.inr (.inr x0)), some (.inl x1), some (.inr (.inr x2)), some (.inl x3), none] [.inl (0 : Int32), .inr (.inr v9)] (by decide +kernel) rfl ?_
  refine s_pI fl_7_62 (Or.inl rfl) rfl (by decide +kernel) (fun M10 => ?_)
  refine s_run (b := [(.aload_n 0, 1)]) 46 [some (.inr (.inr x0)), some (.inl x1), some (.inr (.inr x2)), some (.inl x3), none] [.inr (.inr x0)] (by decide +kernel) rfl ?_
  refine s_gR fl_7_28 rfl (by decide +kernel) (fun v11 => ?_)
  refine s_run (b := [(.iconst 0, 1)]) 50 [some (.inr (.inr x0)), some (.inl x1), some (.inr (.inr x2)), some (.inl x3), none] [.inl (0 : Int32), .inr (.inr v11)] (by decide +kernel) rfl ?_
  refine s_pI fl_7_65 (Or.inl rfl) rfl (by decide +kernel) (fun M12 => ?_)
  refine s_run (b := [(.iconst 0, 1), (.istore 4, 2)]) 56 [some (.inr (.inr x0)), some (.inl x1), some (.inr (.inr x2)), some (.inl x3), some (.inl (0 : Int32))] [] (by decide +kernel) rfl ?_
  refine s_lsub (ls' := [some (.inr (.inr x0)), some (.inl x1), none, none, some (.inl (0 : Int32))]) ⟨rfl, ⟨rfl, ⟨rfl, trivial⟩⟩⟩ ?_
  refine sim_bind (L_X7_readText_56 M12 x0 x1 (0 : Int32) _ (fun r13 => ?_) (fun r13 => ?_) (fun r13 => ?_))
  · change Sim l G Y_X7_readText lim _ _ 76 [some (.inr (.inr x0)), some (.inl x1), none, none, none] [] r13
    refine s_run (b := [(.goto 31, 3)]) 107 [some (.inr (.inr x0)), some (.inl x1), none, none, none] [] (by decide +kernel) rfl ?_
    exact s_lsub (ls' := [some (.inr (.inr x0)), some (.inl x1), none, none, none]) ⟨rfl, ⟨rfl, trivial⟩⟩ (J_X7_readText_107 r13 x0 x1 )
  · change Sim l G Y_X7_readText lim _ _ 87 [some (.inr (.inr x0)), none, none, none, none] [] r13
    refine s_run (b := [(.aload_n 0, 1), (.iconst 1, 1)]) 89 [some (.inr (.inr x0)), none, none, none, none] [.inl (1 : Int32), .inr (.inr x0)] (by decide +kernel) rfl ?_
    refine s_pI fl_7_56 (Or.inl rfl) rfl (by decide +kernel) (fun M14 => ?_)
    refine s_run (b := [(.aload_n 0, 1), (.aload_n 0, 1)]) 94 [some (.inr (.inr x0)), none, none, none, none] [.inr (.inr x0), .inr (.inr x0)] (by decide +kernel) rfl ?_
    refine s_gI fl_7_76 rfl (by decide +kernel) (fun v15 => ?_)
    refine s_pI fl_7_32 (Or.inl rfl) rfl (by decide +kernel) (fun M16 => ?_)
    exact s_vret (by decide +kernel) rfl
  · change Sim l G Y_X7_readText lim _ _ 107 [some (.inr (.inr x0)), some (.inl x1), none, none, none] [] r13
    exact s_lsub (ls' := [some (.inr (.inr x0)), some (.inl x1), none, none, none]) ⟨rfl, ⟨rfl, trivial⟩⟩ (J_X7_readText_107 r13 x0 x1 )
set_option maxRecDepth 20000 in
theorem c_X7_readText {l : Launch} {G : Gv} {M : Mem} {x0 : Nat} {x1 : Int32} {x2 : Nat} {x3 : Int32} {z : Mem} (h : f_X7_readText M x0 x1 x2 x3 = some z) : MetS l G Y_X7_readText [.inr (.inr x0), .inl x1, .inr (.inr x2), .inl x3] M none z :=
  met_of (ls0 := [some (.inr (.inr x0)), some (.inl x1), some (.inr (.inr x2)), some (.inl x3), none]) (by decide) rfl (lv_in (m := 1) rfl) (sl_le (Nat.le_of_ble_eq_true rfl)) (by rw [h]; rfl) (Or.inl ⟨rfl, rfl⟩) (S_X7_readText M x0 x1 x2 x3)
def f_X9_keep_J54 (M : Mem) (x0 : Nat) (x1 : Int32) (x2 : Int32)  : Option (Mem) :=
  (gR M 9 x0 4).bind fun v1 =>
  (gR M 9 x0 4).bind fun v2 =>
  (aI M 0 v2 x1).bind fun v3 =>
  (sI M 0 v1 x1 (imax v3 (x2 + (1 : Int32)))).bind fun M4 =>
  some M4
set_option maxRecDepth 20000 in
theorem J_X9_keep_54 {l : Launch} {G : Gv} {lim : Nat × Nat} (M : Mem) (x0 : Nat) (x1 : Int32) (x2 : Int32)   : Sim l G Y_X9_keep lim (f_X9_keep_J54 M x0 x1 x2) (fun z => some (none, z)) 54 [some (.inr (.inr x0)), some (.inl x1), some (.inl x2), none] [] M := by
  unfold f_X9_keep_J54
  refine s_run (b := [(.aload_n 0, 1)]) 55 [some (.inr (.inr x0)), some (.inl x1), some (.inl x2), none] [.inr (.inr x0)] (by decide +kernel) rfl ?_
  refine s_gR fl_9_19 rfl (by decide +kernel) (fun v1 => ?_)
  refine s_run (b := [(.iload_n 1, 1), (.aload_n 0, 1)]) 60 [some (.inr (.inr x0)), some (.inl x1), some (.inl x2), none] [.inr (.inr x0), .inl x1, .inr (.inr v1)] (by decide +kernel) rfl ?_
  refine s_gR fl_9_19 rfl (by decide +kernel) (fun v2 => ?_)
  refine s_run (b := [(.iload_n 1, 1)]) 64 [some (.inr (.inr x0)), some (.inl x1), some (.inl x2), none] [.inl x1, .inr (.inr v2), .inl x1, .inr (.inr v1)] (by decide +kernel) rfl ?_
  refine s_ia (by decide +kernel) (fun v3 => ?_)
  refine s_run (b := [(.iload_n 2, 1), (.iconst 1, 1), (.iadd, 1)]) 68 [some (.inr (.inr x0)), some (.inl x1), some (.inl x2), none] [.inl (x2 + (1 : Int32)), .inl v3, .inl x1, .inr (.inr v1)] (by decide +kernel) rfl ?_
  refine s_imax q705 ⟨Nat.le_of_ble_eq_true rfl, Nat.le_of_ble_eq_true rfl⟩ (by decide +kernel) ?_
  change Sim l G Y_X9_keep lim _ _ 71 [some (.inr (.inr x0)), some (.inl x1), some (.inl x2), none] [.inl (imax v3 (x2 + (1 : Int32))), .inl x1, .inr (.inr v1)] M
  refine s_is (by decide +kernel) (fun M4 => ?_)
  exact s_vret (by decide +kernel) rfl
def f_X9_keep (M : Mem) (x0 : Nat) (x1 : Int32) (x2 : Int32) (x3 : Nat) : Option (Mem) :=
  (if x1 = 0 then
    (gR M 9 x0 5).bind fun v2 =>
    (aR M 5 v2 x2).bind fun v3 =>
    (gR M 7 x3 0).bind fun v4 =>
    (ob M 5 v3).bind fun _ => (f_X5_copyFrom M v3 v4).bind fun z5 =>
    f_X9_keep_J54 z5 x0 x1 x2 
  else
    (if x1 = (1 : Int32) then
      (gR M 9 x0 6).bind fun v7 =>
      (aR M 6 v7 x2).bind fun v8 =>
      (gR M 7 x3 1).bind fun v9 =>
      (ob M 1 v8).bind fun _ => (f_X1_copyFrom M v8 v9).bind fun z10 =>
      f_X9_keep_J54 z10 x0 x1 x2 
    else
      (gR M 9 x0 7).bind fun v11 =>
      (aR M 7 v11 x2).bind fun v12 =>
      (gR M 7 x3 2).bind fun v13 =>
      (ob M 4 v12).bind fun _ => (f_X4_copyFrom M v12 v13).bind fun z14 =>
      f_X9_keep_J54 z14 x0 x1 x2 ))
set_option maxRecDepth 20000 in
theorem S_X9_keep {l : Launch} {G : Gv} {lim : Nat × Nat} (M : Mem) (x0 : Nat) (x1 : Int32) (x2 : Int32) (x3 : Nat) : Sim l G Y_X9_keep lim (f_X9_keep M x0 x1 x2 x3) (fun z => some (none, z)) 0 [some (.inr (.inr x0)), some (.inl x1), some (.inl x2), some (.inr (.inr x3))] [] M := by
  unfold f_X9_keep
  refine s_run (b := [(.iload_n 1, 1)]) 1 [some (.inr (.inr x0)), some (.inl x1), some (.inl x2), some (.inr (.inr x3))] [.inl x1] (by decide +kernel) rfl ?_
  refine s_if_ne (tgt := 20) (off := 19) (by decide +kernel) (by decide) (fun h1 => ?_) (fun h1 => ?_)
  · skip
    refine s_run (b := [(.aload_n 0, 1)]) 5 [some (.inr (.inr x0)), some (.inl x1), some (.inl x2), some (.inr (.inr x3))] [.inr (.inr x0)] (by decide +kernel) rfl ?_
    refine s_gR fl_9_25 rfl (by decide +kernel) (fun v2 => ?_)
    refine s_run (b := [(.iload_n 2, 1)]) 9 [some (.inr (.inr x0)), some (.inl x1), some (.inl x2), some (.inr (.inr x3))] [.inl x2, .inr (.inr v2)] (by decide +kernel) rfl ?_
    refine s_aa ⟨by decide, by decide⟩ rfl (by decide +kernel) (fun v3 => ?_)
    refine s_run (b := [(.aload_n 3, 1)]) 11 [some (.inr (.inr x0)), some (.inl x1), some (.inl x2), some (.inr (.inr x3))] [.inr (.inr x3), .inr (.inr v3)] (by decide +kernel) rfl ?_
    refine s_gR fl_9_66 rfl (by decide +kernel) (fun v4 => ?_)
    refine s_cV (Z := Y_X5_copyFrom) (c := 5) (vs := [.inr (.inr v4)]) (st := []) (rO := fun _ => none) (mO := fun z => z) zk_X5_copyFrom zi_X5_copyFrom q688 rfl ⟨by decide, by decide⟩ ⟨rfl, rfl⟩ rfl rfl (Nat.le_of_ble_eq_true rfl) (by decide +kernel) (fun z hz => c_X5_copyFrom hz) (fun z5 => ?_)
    change Sim l G Y_X9_keep lim _ _ 17 [some (.inr (.inr x0)), some (.inl x1), some (.inl x2), some (.inr (.inr x3))] [] z5
    refine s_run (b := [(.goto 37, 3)]) 54 [some (.inr (.inr x0)), some (.inl x1), some (.inl x2), some (.inr (.inr x3))] [] (by decide +kernel) rfl ?_
    exact s_lsub (ls' := [some (.inr (.inr x0)), some (.inl x1), some (.inl x2), none]) ⟨rfl, ⟨rfl, ⟨rfl, trivial⟩⟩⟩ (J_X9_keep_54 z5 x0 x1 x2 )
  · skip
    refine s_run (b := [(.iload_n 1, 1), (.iconst 1, 1)]) 22 [some (.inr (.inr x0)), some (.inl x1), some (.inl x2), some (.inr (.inr x3))] [.inl (1 : Int32), .inl x1] (by decide +kernel) rfl ?_
    refine s_ic_ne (tgt := 41) (off := 19) (by decide +kernel) (by decide) (fun h6 => ?_) (fun h6 => ?_)
    · skip
      refine s_run (b := [(.aload_n 0, 1)]) 26 [some (.inr (.inr x0)), some (.inl x1), some (.inl x2), some (.inr (.inr x3))] [.inr (.inr x0)] (by decide +kernel) rfl ?_
      refine s_gR fl_9_31 rfl (by decide +kernel) (fun v7 => ?_)
      refine s_run (b := [(.iload_n 2, 1)]) 30 [some (.inr (.inr x0)), some (.inl x1), some (.inl x2), some (.inr (.inr x3))] [.inl x2, .inr (.inr v7)] (by decide +kernel) rfl ?_
      refine s_aa ⟨by decide, by decide⟩ rfl (by decide +kernel) (fun v8 => ?_)
      refine s_run (b := [(.aload_n 3, 1)]) 32 [some (.inr (.inr x0)), some (.inl x1), some (.inl x2), some (.inr (.inr x3))] [.inr (.inr x3), .inr (.inr v8)] (by decide +kernel) rfl ?_
      refine s_gR fl_9_72 rfl (by decide +kernel) (fun v9 => ?_)
      refine s_cV (Z := Y_X1_copyFrom) (c := 1) (vs := [.inr (.inr v9)]) (st := []) (rO := fun _ => none) (mO := fun z => z) zk_X1_copyFrom zi_X1_copyFrom q695 rfl ⟨by decide, by decide⟩ ⟨rfl, rfl⟩ rfl rfl (Nat.le_of_ble_eq_true rfl) (by decide +kernel) (fun z hz => c_X1_copyFrom hz) (fun z10 => ?_)
      change Sim l G Y_X9_keep lim _ _ 38 [some (.inr (.inr x0)), some (.inl x1), some (.inl x2), some (.inr (.inr x3))] [] z10
      refine s_run (b := [(.goto 16, 3)]) 54 [some (.inr (.inr x0)), some (.inl x1), some (.inl x2), some (.inr (.inr x3))] [] (by decide +kernel) rfl ?_
      exact s_lsub (ls' := [some (.inr (.inr x0)), some (.inl x1), some (.inl x2), none]) ⟨rfl, ⟨rfl, ⟨rfl, trivial⟩⟩⟩ (J_X9_keep_54 z10 x0 x1 x2 )
    · skip
      refine s_run (b := [(.aload_n 0, 1)]) 42 [some (.inr (.inr x0)), some (.inl x1), some (.inl x2), some (.inr (.inr x3))] [.inr (.inr x0)] (by decide +kernel) rfl ?_
      refine s_gR fl_9_37 rfl (by decide +kernel) (fun v11 => ?_)
      refine s_run (b := [(.iload_n 2, 1)]) 46 [some (.inr (.inr x0)), some (.inl x1), some (.inl x2), some (.inr (.inr x3))] [.inl x2, .inr (.inr v11)] (by decide +kernel) rfl ?_
      refine s_aa ⟨by decide, by decide⟩ rfl (by decide +kernel) (fun v12 => ?_)
      refine s_run (b := [(.aload_n 3, 1)]) 48 [some (.inr (.inr x0)), some (.inl x1), some (.inl x2), some (.inr (.inr x3))] [.inr (.inr x3), .inr (.inr v12)] (by decide +kernel) rfl ?_
      refine s_gR fl_9_76 rfl (by decide +kernel) (fun v13 => ?_)
      refine s_cV (Z := Y_X4_copyFrom) (c := 4) (vs := [.inr (.inr v13)]) (st := []) (rO := fun _ => none) (mO := fun z => z) zk_X4_copyFrom zi_X4_copyFrom q700 rfl ⟨by decide, by decide⟩ ⟨rfl, rfl⟩ rfl rfl (Nat.le_of_ble_eq_true rfl) (by decide +kernel) (fun z hz => c_X4_copyFrom hz) (fun z14 => ?_)
      change Sim l G Y_X9_keep lim _ _ 54 [some (.inr (.inr x0)), some (.inl x1), some (.inl x2), some (.inr (.inr x3))] [] z14
      exact s_lsub (ls' := [some (.inr (.inr x0)), some (.inl x1), some (.inl x2), none]) ⟨rfl, ⟨rfl, ⟨rfl, trivial⟩⟩⟩ (J_X9_keep_54 z14 x0 x1 x2 )
set_option maxRecDepth 20000 in
theorem c_X9_keep {l : Launch} {G : Gv} {M : Mem} {x0 : Nat} {x1 : Int32} {x2 : Int32} {x3 : Nat} {z : Mem} (h : f_X9_keep M x0 x1 x2 x3 = some z) : MetS l G Y_X9_keep [.inr (.inr x0), .inl x1, .inl x2, .inr (.inr x3)] M none z :=
  met_of (ls0 := [some (.inr (.inr x0)), some (.inl x1), some (.inl x2), some (.inr (.inr x3))]) (by decide) rfl (lv_in (m := 0) rfl) (sl_le (Nat.le_of_ble_eq_true rfl)) (by rw [h]; rfl) (Or.inl ⟨rfl, rfl⟩) (S_X9_keep M x0 x1 x2 x3)
def f_X9_slotFor (M : Mem) (x0 : Nat) (x1 : Int32) (x2 : Int32) : Option (Int32) :=
  (if x1 < 0 then
    some (-1 : Int32)
  else
    (if x1 < (3 : Int32) then
      (if x2 = (-1 : Int32) then
        (gR M 9 x0 4).bind fun v4 =>
        (aI M 0 v4 x1).bind fun v5 =>
        (if (2 : Int32) ≤ v5 then
          some (-1 : Int32)
        else
          (gR M 9 x0 4).bind fun v7 =>
          (aI M 0 v7 x1).bind fun v8 =>
          some v8)
      else
        (if x2 < 0 then
          some (-1 : Int32)
        else
          (gR M 9 x0 4).bind fun v10 =>
          (aI M 0 v10 x1).bind fun v11 =>
          (if v11 ≤ x2 then
            some (-1 : Int32)
          else
            some x2)))
    else
      some (-1 : Int32)))
set_option maxRecDepth 20000 in
theorem S_X9_slotFor {l : Launch} {G : Gv} {lim : Nat × Nat} (M : Mem) (x0 : Nat) (x1 : Int32) (x2 : Int32) : Sim l G Y_X9_slotFor lim (f_X9_slotFor M x0 x1 x2) (fun z => some (some (.int z), M)) 0 [some (.inr (.inr x0)), some (.inl x1), some (.inl x2)] [] M := by
  unfold f_X9_slotFor
  refine s_run (b := [(.iload_n 1, 1)]) 1 [some (.inr (.inr x0)), some (.inl x1), some (.inl x2)] [.inl x1] (by decide +kernel) rfl ?_
  refine s_if_lt (tgt := 9) (off := 8) (by decide +kernel) (by decide) (fun h1 => ?_) (fun h1 => ?_)
  · skip
    refine s_run (b := [(.iconst (-1), 1)]) 10 [some (.inr (.inr x0)), some (.inl x1), some (.inl x2)] [.inl (-1 : Int32)] (by decide +kernel) rfl ?_
    exact s_iret (by decide +kernel) rfl
  · skip
    refine s_run (b := [(.iload_n 1, 1), (.iconst 3, 1)]) 6 [some (.inr (.inr x0)), some (.inl x1), some (.inl x2)] [.inl (3 : Int32), .inl x1] (by decide +kernel) rfl ?_
    refine s_ic_lt (tgt := 11) (off := 5) (by decide +kernel) (by decide) (fun h2 => ?_) (fun h2 => ?_)
    · skip
      refine s_run (b := [(.iload_n 2, 1), (.iconst (-1), 1)]) 13 [some (.inr (.inr x0)), some (.inl x1), some (.inl x2)] [.inl (-1 : Int32), .inl x2] (by decide +kernel) rfl ?_
      refine s_ic_ne (tgt := 37) (off := 24) (by decide +kernel) (by decide) (fun h3 => ?_) (fun h3 => ?_)
      · skip
        refine s_run (b := [(.aload_n 0, 1)]) 17 [some (.inr (.inr x0)), some (.inl x1), some (.inl x2)] [.inr (.inr x0)] (by decide +kernel) rfl ?_
        refine s_gR fl_9_19 rfl (by decide +kernel) (fun v4 => ?_)
        refine s_run (b := [(.iload_n 1, 1)]) 21 [some (.inr (.inr x0)), some (.inl x1), some (.inl x2)] [.inl x1, .inr (.inr v4)] (by decide +kernel) rfl ?_
        refine s_ia (by decide +kernel) (fun v5 => ?_)
        refine s_run (b := [(.iconst 2, 1)]) 23 [some (.inr (.inr x0)), some (.inl x1), some (.inl x2)] [.inl (2 : Int32), .inl v5] (by decide +kernel) rfl ?_
        refine s_ic_ge (tgt := 35) (off := 12) (by decide +kernel) (by decide) (fun h6 => ?_) (fun h6 => ?_)
        · skip
          refine s_run (b := [(.iconst (-1), 1)]) 36 [some (.inr (.inr x0)), some (.inl x1), some (.inl x2)] [.inl (-1 : Int32)] (by decide +kernel) rfl ?_
          exact s_iret (by decide +kernel) rfl
        · skip
          refine s_run (b := [(.aload_n 0, 1)]) 27 [some (.inr (.inr x0)), some (.inl x1), some (.inl x2)] [.inr (.inr x0)] (by decide +kernel) rfl ?_
          refine s_gR fl_9_19 rfl (by decide +kernel) (fun v7 => ?_)
          refine s_run (b := [(.iload_n 1, 1)]) 31 [some (.inr (.inr x0)), some (.inl x1), some (.inl x2)] [.inl x1, .inr (.inr v7)] (by decide +kernel) rfl ?_
          refine s_ia (by decide +kernel) (fun v8 => ?_)
          refine s_run (b := [(.goto 4, 3)]) 36 [some (.inr (.inr x0)), some (.inl x1), some (.inl x2)] [.inl v8] (by decide +kernel) rfl ?_
          exact s_iret (by decide +kernel) rfl
      · skip
        refine s_run (b := [(.iload_n 2, 1)]) 38 [some (.inr (.inr x0)), some (.inl x1), some (.inl x2)] [.inl x2] (by decide +kernel) rfl ?_
        refine s_if_lt (tgt := 55) (off := 17) (by decide +kernel) (by decide) (fun h9 => ?_) (fun h9 => ?_)
        · skip
          refine s_run (b := [(.iconst (-1), 1)]) 56 [some (.inr (.inr x0)), some (.inl x1), some (.inl x2)] [.inl (-1 : Int32)] (by decide +kernel) rfl ?_
          exact s_iret (by decide +kernel) rfl
        · skip
          refine s_run (b := [(.iload_n 2, 1), (.aload_n 0, 1)]) 43 [some (.inr (.inr x0)), some (.inl x1), some (.inl x2)] [.inr (.inr x0), .inl x2] (by decide +kernel) rfl ?_
          refine s_gR fl_9_19 rfl (by decide +kernel) (fun v10 => ?_)
          refine s_run (b := [(.iload_n 1, 1)]) 47 [some (.inr (.inr x0)), some (.inl x1), some (.inl x2)] [.inl x1, .inr (.inr v10), .inl x2] (by decide +kernel) rfl ?_
          refine s_ia (by decide +kernel) (fun v11 => ?_)
          refine s_ic_ge (tgt := 55) (off := 7) (by decide +kernel) (by decide) (fun h12 => ?_) (fun h12 => ?_)
          · skip
            refine s_run (b := [(.iconst (-1), 1)]) 56 [some (.inr (.inr x0)), some (.inl x1), some (.inl x2)] [.inl (-1 : Int32)] (by decide +kernel) rfl ?_
            exact s_iret (by decide +kernel) rfl
          · skip
            refine s_run (b := [(.iload_n 2, 1), (.goto 4, 3)]) 56 [some (.inr (.inr x0)), some (.inl x1), some (.inl x2)] [.inl x2] (by decide +kernel) rfl ?_
            exact s_iret (by decide +kernel) rfl
    · skip
      refine s_run (b := [(.iconst (-1), 1)]) 10 [some (.inr (.inr x0)), some (.inl x1), some (.inl x2)] [.inl (-1 : Int32)] (by decide +kernel) rfl ?_
      exact s_iret (by decide +kernel) rfl
set_option maxRecDepth 20000 in
theorem c_X9_slotFor {l : Launch} {G : Gv} {M : Mem} {x0 : Nat} {x1 : Int32} {x2 : Int32} {z : Int32} (h : f_X9_slotFor M x0 x1 x2 = some z) : MetS l G Y_X9_slotFor [.inr (.inr x0), .inl x1, .inl x2] M (some (.int z)) M :=
  met_of (ls0 := [some (.inr (.inr x0)), some (.inl x1), some (.inl x2)]) (by decide) rfl (lv_in (m := 0) rfl) (sl_le (Nat.le_of_ble_eq_true rfl)) (by rw [h]; rfl) (Or.inl ⟨rfl, rfl⟩) (S_X9_slotFor M x0 x1 x2)
def f_X11_text (M : Mem) (x0 : Nat) (x1 : Int32) (x2 : Int32) : Option (Int32 × Mem) :=
  (gR M 11 x0 0).bind fun v1 =>
  (gI M 9 v1 1).bind fun v2 =>
  (gR M 11 x0 0).bind fun v3 =>
  (pI M 9 v3 1 (0 : Int32)).bind fun M4 =>
  (gR M4 11 x0 0).bind fun v5 =>
  (pI M4 9 v5 2 (0 : Int32)).bind fun M6 =>
  (gR M6 11 x0 0).bind fun v7 =>
  (pI M6 9 v7 3 (-1 : Int32)).bind fun M8 =>
  (gR M8 11 x0 0).bind fun v9 =>
  (ob M8 9 v9).bind fun _ => (f_X9_slotFor M8 v9 x1 x2).bind fun v10 =>
  (if v10 = (-1 : Int32) then
    some ((-2 : Int32), M8)
  else
    (gR M8 11 x0 3).bind fun v12 =>
    (gR M8 11 x0 0).bind fun v13 =>
    (gR M8 9 v13 0).bind fun v14 =>
    (ob M8 7 v12).bind fun _ => (f_X7_readText M8 v12 x1 v14 v2).bind fun z15 =>
    (gR z15 11 x0 0).bind fun v16 =>
    (gR z15 11 x0 3).bind fun v17 =>
    (gI z15 7 v17 3).bind fun v18 =>
    (pI z15 9 v16 2 v18).bind fun M19 =>
    (gR M19 11 x0 0).bind fun v20 =>
    (gR M19 11 x0 3).bind fun v21 =>
    (gI M19 7 v21 4).bind fun v22 =>
    (pI M19 9 v20 3 v22).bind fun M23 =>
    (gR M23 11 x0 3).bind fun v24 =>
    (gI M23 7 v24 3).bind fun v25 =>
    (if v25 = 0 then
      (gR M23 11 x0 0).bind fun v27 =>
      (gR M23 11 x0 3).bind fun v28 =>
      (ob M23 9 v27).bind fun _ => (f_X9_keep M23 v27 x1 v10 v28).bind fun z29 =>
      some (v10, z29)
    else
      some ((-1 : Int32), M23)))
set_option maxRecDepth 20000 in
theorem S_X11_text {l : Launch} {G : Gv} {lim : Nat × Nat} (M : Mem) (x0 : Nat) (x1 : Int32) (x2 : Int32) : Sim l G Y_X11_text lim (f_X11_text M x0 x1 x2) (fun z => some (some (.int z.1), z.2)) 0 [some (.inr (.inr x0)), some (.inl x1), some (.inl x2), none, none] [] M := by
  unfold f_X11_text
  refine s_run (b := [(.aload_n 0, 1)]) 1 [some (.inr (.inr x0)), some (.inl x1), some (.inl x2), none, none] [.inr (.inr x0)] (by decide +kernel) rfl ?_
  refine s_gR fl_11_10 rfl (by decide +kernel) (fun v1 => ?_)
  refine s_gI fl_11_73 rfl (by decide +kernel) (fun v2 => ?_)
  refine s_run (b := [(.istore_n 3, 1), (.aload_n 0, 1)]) 9 [some (.inr (.inr x0)), some (.inl x1), some (.inl x2), some (.inl v2), none] [.inr (.inr x0)] (by decide +kernel) rfl ?_
  refine s_gR fl_11_10 rfl (by decide +kernel) (fun v3 => ?_)
  refine s_run (b := [(.iconst 0, 1)]) 13 [some (.inr (.inr x0)), some (.inl x1), some (.inl x2), some (.inl v2), none] [.inl (0 : Int32), .inr (.inr v3)] (by decide +kernel) rfl ?_
  refine s_pI fl_11_73 (Or.inl rfl) rfl (by decide +kernel) (fun M4 => ?_)
  refine s_run (b := [(.aload_n 0, 1)]) 17 [some (.inr (.inr x0)), some (.inl x1), some (.inl x2), some (.inl v2), none] [.inr (.inr x0)] (by decide +kernel) rfl ?_
  refine s_gR fl_11_10 rfl (by decide +kernel) (fun v5 => ?_)
  refine s_run (b := [(.iconst 0, 1)]) 21 [some (.inr (.inr x0)), some (.inl x1), some (.inl x2), some (.inl v2), none] [.inl (0 : Int32), .inr (.inr v5)] (by decide +kernel) rfl ?_
  refine s_pI fl_11_81 (Or.inl rfl) rfl (by decide +kernel) (fun M6 => ?_)
  refine s_run (b := [(.aload_n 0, 1)]) 25 [some (.inr (.inr x0)), some (.inl x1), some (.inl x2), some (.inl v2), none] [.inr (.inr x0)] (by decide +kernel) rfl ?_
  refine s_gR fl_11_10 rfl (by decide +kernel) (fun v7 => ?_)
  refine s_run (b := [(.iconst (-1), 1)]) 29 [some (.inr (.inr x0)), some (.inl x1), some (.inl x2), some (.inl v2), none] [.inl (-1 : Int32), .inr (.inr v7)] (by decide +kernel) rfl ?_
  refine s_pI fl_11_84 (Or.inl rfl) rfl (by decide +kernel) (fun M8 => ?_)
  refine s_run (b := [(.aload_n 0, 1)]) 33 [some (.inr (.inr x0)), some (.inl x1), some (.inl x2), some (.inl v2), none] [.inr (.inr x0)] (by decide +kernel) rfl ?_
  refine s_gR fl_11_10 rfl (by decide +kernel) (fun v9 => ?_)
  refine s_run (b := [(.iload_n 1, 1), (.iload_n 2, 1)]) 38 [some (.inr (.inr x0)), some (.inl x1), some (.inl x2), some (.inl v2), none] [.inl x2, .inl x1, .inr (.inr v9)] (by decide +kernel) rfl ?_
  refine s_cV (Z := Y_X9_slotFor) (c := 9) (vs := [.inl x1, .inl x2]) (st := []) (rO := fun z => some (.inl z)) (mO := fun _ => M8) zk_X9_slotFor zi_X9_slotFor q507 rfl ⟨by decide, by decide⟩ ⟨rfl, rfl⟩ rfl rfl (Nat.le_of_ble_eq_true rfl) (by decide +kernel) (fun z hz => c_X9_slotFor hz) (fun v10 => ?_)
  change Sim l G Y_X11_text lim _ _ 41 [some (.inr (.inr x0)), some (.inl x1), some (.inl x2), some (.inl v2), none] [.inl v10] M8
  refine s_run (b := [(.istore 4, 2), (.iload 4, 2), (.iconst (-1), 1)]) 46 [some (.inr (.inr x0)), some (.inl x1), some (.inl x2), some (.inl v2), some (.inl v10)] [.inl (-1 : Int32), .inl v10] (by decide +kernel) rfl ?_
  refine s_ic_ne (tgt := 52) (off := 6) (by decide +kernel) (by decide) (fun h11 => ?_) (fun h11 => ?_)
  · skip
    refine s_run (b := [(.bipush (-2), 2)]) 51 [some (.inr (.inr x0)), some (.inl x1), some (.inl x2), some (.inl v2), some (.inl v10)] [.inl (-2 : Int32)] (by decide +kernel) rfl ?_
    exact s_iret (by decide +kernel) rfl
  · skip
    refine s_run (b := [(.aload_n 0, 1)]) 53 [some (.inr (.inr x0)), some (.inl x1), some (.inl x2), some (.inl v2), some (.inl v10)] [.inr (.inr x0)] (by decide +kernel) rfl ?_
    refine s_gR fl_11_27 rfl (by decide +kernel) (fun v12 => ?_)
    refine s_run (b := [(.iload_n 1, 1), (.aload_n 0, 1)]) 58 [some (.inr (.inr x0)), some (.inl x1), some (.inl x2), some (.inl v2), some (.inl v10)] [.inr (.inr x0), .inl x1, .inr (.inr v12)] (by decide +kernel) rfl ?_
    refine s_gR fl_11_10 rfl (by decide +kernel) (fun v13 => ?_)
    refine s_gR fl_11_91 rfl (by decide +kernel) (fun v14 => ?_)
    refine s_run (b := [(.iload_n 3, 1)]) 65 [some (.inr (.inr x0)), some (.inl x1), some (.inl x2), some (.inl v2), some (.inl v10)] [.inl v2, .inr (.inr v14), .inl x1, .inr (.inr v12)] (by decide +kernel) rfl ?_
    refine s_cV (Z := Y_X7_readText) (c := 7) (vs := [.inl x1, .inr (.inr v14), .inl v2]) (st := []) (rO := fun _ => none) (mO := fun z => z) zk_X7_readText zi_X7_readText q511 rfl ⟨by decide, by decide⟩ ⟨rfl, rfl⟩ rfl rfl (Nat.le_of_ble_eq_true rfl) (by decide +kernel) (fun z hz => c_X7_readText hz) (fun z15 => ?_)
    change Sim l G Y_X11_text lim _ _ 68 [some (.inr (.inr x0)), some (.inl x1), some (.inl x2), some (.inl v2), some (.inl v10)] [] z15
    refine s_run (b := [(.aload_n 0, 1)]) 69 [some (.inr (.inr x0)), some (.inl x1), some (.inl x2), some (.inl v2), some (.inl v10)] [.inr (.inr x0)] (by decide +kernel) rfl ?_
    refine s_gR fl_11_10 rfl (by decide +kernel) (fun v16 => ?_)
    refine s_run (b := [(.aload_n 0, 1)]) 73 [some (.inr (.inr x0)), some (.inl x1), some (.inl x2), some (.inl v2), some (.inl v10)] [.inr (.inr x0), .inr (.inr v16)] (by decide +kernel) rfl ?_
    refine s_gR fl_11_27 rfl (by decide +kernel) (fun v17 => ?_)
    refine s_gI fl_11_99 rfl (by decide +kernel) (fun v18 => ?_)
    refine s_pI fl_11_81 (Or.inl rfl) rfl (by decide +kernel) (fun M19 => ?_)
    refine s_run (b := [(.aload_n 0, 1)]) 83 [some (.inr (.inr x0)), some (.inl x1), some (.inl x2), some (.inl v2), some (.inl v10)] [.inr (.inr x0)] (by decide +kernel) rfl ?_
    refine s_gR fl_11_10 rfl (by decide +kernel) (fun v20 => ?_)
    refine s_run (b := [(.aload_n 0, 1)]) 87 [some (.inr (.inr x0)), some (.inl x1), some (.inl x2), some (.inl v2), some (.inl v10)] [.inr (.inr x0), .inr (.inr v20)] (by decide +kernel) rfl ?_
    refine s_gR fl_11_27 rfl (by decide +kernel) (fun v21 => ?_)
    refine s_gI fl_11_100 rfl (by decide +kernel) (fun v22 => ?_)
    refine s_pI fl_11_84 (Or.inl rfl) rfl (by decide +kernel) (fun M23 => ?_)
    refine s_run (b := [(.aload_n 0, 1)]) 97 [some (.inr (.inr x0)), some (.inl x1), some (.inl x2), some (.inl v2), some (.inl v10)] [.inr (.inr x0)] (by decide +kernel) rfl ?_
    refine s_gR fl_11_27 rfl (by decide +kernel) (fun v24 => ?_)
    refine s_gI fl_11_99 rfl (by decide +kernel) (fun v25 => ?_)
    refine s_if_eq (tgt := 108) (off := 5) (by decide +kernel) (by decide) (fun h26 => ?_) (fun h26 => ?_)
    · skip
      refine s_run (b := [(.aload_n 0, 1)]) 109 [some (.inr (.inr x0)), some (.inl x1), some (.inl x2), some (.inl v2), some (.inl v10)] [.inr (.inr x0)] (by decide +kernel) rfl ?_
      refine s_gR fl_11_10 rfl (by decide +kernel) (fun v27 => ?_)
      refine s_run (b := [(.iload_n 1, 1), (.iload 4, 2), (.aload_n 0, 1)]) 116 [some (.inr (.inr x0)), some (.inl x1), some (.inl x2), some (.inl v2), some (.inl v10)] [.inr (.inr x0), .inl v10, .inl x1, .inr (.inr v27)] (by decide +kernel) rfl ?_
      refine s_gR fl_11_27 rfl (by decide +kernel) (fun v28 => ?_)
      refine s_cV (Z := Y_X9_keep) (c := 9) (vs := [.inl x1, .inl v10, .inr (.inr v28)]) (st := []) (rO := fun _ => none) (mO := fun z => z) zk_X9_keep zi_X9_keep q684 rfl ⟨by decide, by decide⟩ ⟨rfl, rfl⟩ rfl rfl (Nat.le_of_ble_eq_true rfl) (by decide +kernel) (fun z hz => c_X9_keep hz) (fun z29 => ?_)
      change Sim l G Y_X11_text lim _ _ 122 [some (.inr (.inr x0)), some (.inl x1), some (.inl x2), some (.inl v2), some (.inl v10)] [] z29
      refine s_run (b := [(.iload 4, 2)]) 124 [some (.inr (.inr x0)), some (.inl x1), some (.inl x2), some (.inl v2), some (.inl v10)] [.inl v10] (by decide +kernel) rfl ?_
      exact s_iret (by decide +kernel) rfl
    · skip
      refine s_run (b := [(.iconst (-1), 1)]) 107 [some (.inr (.inr x0)), some (.inl x1), some (.inl x2), some (.inl v2), some (.inl v10)] [.inl (-1 : Int32)] (by decide +kernel) rfl ?_
      exact s_iret (by decide +kernel) rfl
set_option maxRecDepth 20000 in
theorem c_X11_text {l : Launch} {G : Gv} {M : Mem} {x0 : Nat} {x1 : Int32} {x2 : Int32} {z : Int32 × Mem} (h : f_X11_text M x0 x1 x2 = some z) : MetS l G Y_X11_text [.inr (.inr x0), .inl x1, .inl x2] M (some (.int z.1)) z.2 :=
  met_of (ls0 := [some (.inr (.inr x0)), some (.inl x1), some (.inl x2), none, none]) (by decide) rfl (lv_in (m := 2) rfl) (sl_le (Nat.le_of_ble_eq_true rfl)) (by rw [h]; rfl) (Or.inl ⟨rfl, rfl⟩) (S_X11_text M x0 x1 x2)
def f_X11_tied (M : Mem) (x0 : Nat) (x1 : Int32) (x2 : Int32) : Option (Int32 × Mem) :=
  (gR M 11 x0 0).bind fun v1 =>
  (ob M 9 v1).bind fun _ => (f_X9_officeAt M v1 x1).bind fun v2 =>
  (if v2 = 0 then
    some ((-1 : Int32), M)
  else
    (ob M 5 v2).bind fun _ => (f_X5_hasDesk M v2 x2).bind fun v4 =>
    (if v4 = 0 then
      some ((-1 : Int32), M)
    else
      (gR M 11 x0 4).bind fun v6 =>
      (ob M 5 v2).bind fun _ => (f_X5_othersThan M v2 x2).bind fun v7 =>
      (ob M 3 v6).bind fun _ => (f_X3_asTold M v6 v2 x2 v7 1000).bind fun z8 =>
      (gR z8 11 x0 4).bind fun v9 =>
      (gI z8 3 v9 2).bind fun v10 =>
      some (v10, z8)))
set_option maxRecDepth 20000 in
theorem S_X11_tied {l : Launch} {G : Gv} {lim : Nat × Nat} (M : Mem) (x0 : Nat) (x1 : Int32) (x2 : Int32) : Sim l G Y_X11_tied lim (f_X11_tied M x0 x1 x2) (fun z => some (some (.int z.1), z.2)) 0 [some (.inr (.inr x0)), some (.inl x1), some (.inl x2), none] [] M := by
  unfold f_X11_tied
  refine s_run (b := [(.aload_n 0, 1)]) 1 [some (.inr (.inr x0)), some (.inl x1), some (.inl x2), none] [.inr (.inr x0)] (by decide +kernel) rfl ?_
  refine s_gR fl_11_10 rfl (by decide +kernel) (fun v1 => ?_)
  refine s_run (b := [(.iload_n 1, 1)]) 5 [some (.inr (.inr x0)), some (.inl x1), some (.inl x2), none] [.inl x1, .inr (.inr v1)] (by decide +kernel) rfl ?_
  refine s_cV (Z := Y_X9_officeAt) (c := 9) (vs := [.inl x1]) (st := []) (rO := fun z => some (.inr (.inr z))) (mO := fun _ => M) zk_X9_officeAt zi_X9_officeAt q716 rfl ⟨by decide, by decide⟩ ⟨rfl, rfl⟩ rfl rfl (Nat.le_of_ble_eq_true rfl) (by decide +kernel) (fun z hz => c_X9_officeAt hz) (fun v2 => ?_)
  change Sim l G Y_X11_tied lim _ _ 8 [some (.inr (.inr x0)), some (.inl x1), some (.inl x2), none] [.inr (.inr v2)] M
  refine s_run (b := [(.astore_n 3, 1), (.aload_n 3, 1)]) 10 [some (.inr (.inr x0)), some (.inl x1), some (.inl x2), some (.inr (.inr v2))] [.inr (.inr v2)] (by decide +kernel) rfl ?_
  refine s_ifnull (tgt := 21) (off := 11) (by decide +kernel) (by decide) (fun h3 => ?_) (fun h3 => ?_)
  · skip
    refine s_run (b := [(.iconst (-1), 1)]) 22 [some (.inr (.inr x0)), some (.inl x1), some (.inl x2), some (.inr (.inr v2))] [.inl (-1 : Int32)] (by decide +kernel) rfl ?_
    exact s_iret (by decide +kernel) rfl
  · skip
    refine s_run (b := [(.aload_n 3, 1), (.iload_n 2, 1)]) 15 [some (.inr (.inr x0)), some (.inl x1), some (.inl x2), some (.inr (.inr v2))] [.inl x2, .inr (.inr v2)] (by decide +kernel) rfl ?_
    refine s_cV (Z := Y_X5_hasDesk) (c := 5) (vs := [.inl x2]) (st := []) (rO := fun z => some (.inl z)) (mO := fun _ => M) zk_X5_hasDesk zi_X5_hasDesk q845 rfl ⟨by decide, by decide⟩ ⟨rfl, rfl⟩ rfl rfl (Nat.le_of_ble_eq_true rfl) (by decide +kernel) (fun z hz => c_X5_hasDesk hz) (fun v4 => ?_)
    change Sim l G Y_X11_tied lim _ _ 18 [some (.inr (.inr x0)), some (.inl x1), some (.inl x2), some (.inr (.inr v2))] [.inl v4] M
    refine s_if_ne (tgt := 23) (off := 5) (by decide +kernel) (by decide) (fun h5 => ?_) (fun h5 => ?_)
    · skip
      refine s_run (b := [(.iconst (-1), 1)]) 22 [some (.inr (.inr x0)), some (.inl x1), some (.inl x2), some (.inr (.inr v2))] [.inl (-1 : Int32)] (by decide +kernel) rfl ?_
      exact s_iret (by decide +kernel) rfl
    · skip
      refine s_run (b := [(.aload_n 0, 1)]) 24 [some (.inr (.inr x0)), some (.inl x1), some (.inl x2), some (.inr (.inr v2))] [.inr (.inr x0)] (by decide +kernel) rfl ?_
      refine s_gR fl_11_34 rfl (by decide +kernel) (fun v6 => ?_)
      refine s_run (b := [(.aload_n 3, 1), (.iload_n 2, 1), (.aload_n 3, 1), (.iload_n 2, 1)]) 31 [some (.inr (.inr x0)), some (.inl x1), some (.inl x2), some (.inr (.inr v2))] [.inl x2, .inr (.inr v2), .inl x2, .inr (.inr v2), .inr (.inr v6)] (by decide +kernel) rfl ?_
      refine s_cV (Z := Y_X5_othersThan) (c := 5) (vs := [.inl x2]) (st := [.inl x2, .inr (.inr v2), .inr (.inr v6)]) (rO := fun z => some (.inl z)) (mO := fun _ => M) zk_X5_othersThan zi_X5_othersThan q1263 rfl ⟨by decide, by decide⟩ ⟨rfl, rfl⟩ rfl rfl (Nat.le_of_ble_eq_true rfl) (by decide +kernel) (fun z hz => c_X5_othersThan hz) (fun v7 => ?_)
      change Sim l G Y_X11_tied lim _ _ 34 [some (.inr (.inr x0)), some (.inl x1), some (.inl x2), some (.inr (.inr v2))] [.inl v7, .inl x2, .inr (.inr v2), .inr (.inr v6)] M
      refine s_gs (j := 0) (by decide) q847 (by decide +kernel) ?_
      change Sim l G Y_X11_tied lim _ _ 37 [some (.inr (.inr x0)), some (.inl x1), some (.inl x2), some (.inr (.inr v2))] [.inr (.inr 1000), .inl v7, .inl x2, .inr (.inr v2), .inr (.inr v6)] M
      refine s_cV (Z := Y_X3_asTold) (c := 3) (vs := [.inr (.inr v2), .inl x2, .inl v7, .inr (.inr 1000)]) (st := []) (rO := fun _ => none) (mO := fun z => z) zk_X3_asTold zi_X3_asTold q849 rfl ⟨by decide, by decide⟩ ⟨rfl, rfl⟩ rfl rfl (Nat.le_of_ble_eq_true rfl) (by decide +kernel) (fun z hz => c_X3_asTold hz) (fun z8 => ?_)
      change Sim l G Y_X11_tied lim _ _ 40 [some (.inr (.inr x0)), some (.inl x1), some (.inl x2), some (.inr (.inr v2))] [] z8
      refine s_run (b := [(.aload_n 0, 1)]) 41 [some (.inr (.inr x0)), some (.inl x1), some (.inl x2), some (.inr (.inr v2))] [.inr (.inr x0)] (by decide +kernel) rfl ?_
      refine s_gR fl_11_34 rfl (by decide +kernel) (fun v9 => ?_)
      refine s_gI fl_11_309 rfl (by decide +kernel) (fun v10 => ?_)
      exact s_iret (by decide +kernel) rfl
set_option maxRecDepth 20000 in
theorem c_X11_tied {l : Launch} {G : Gv} {M : Mem} {x0 : Nat} {x1 : Int32} {x2 : Int32} {z : Int32 × Mem} (h : f_X11_tied M x0 x1 x2 = some z) : MetS l G Y_X11_tied [.inr (.inr x0), .inl x1, .inl x2] M (some (.int z.1)) z.2 :=
  met_of (ls0 := [some (.inr (.inr x0)), some (.inl x1), some (.inl x2), none]) (by decide) rfl (lv_in (m := 1) rfl) (sl_le (Nat.le_of_ble_eq_true rfl)) (by rw [h]; rfl) (Or.inl ⟨rfl, rfl⟩) (S_X11_tied M x0 x1 x2)
def f_X11_who (M : Mem) (x0 : Nat) (x1 : Int32) (x2 : Int32) (x3 : Int32) (x4 : Int32) : Option (Int32 × Mem) :=
  (gR M 11 x0 0).bind fun v1 =>
  (ob M 9 v1).bind fun _ => (f_X9_officeAt M v1 x1).bind fun v2 =>
  (if v2 = 0 then
    some ((-1 : Int32), M)
  else
    (ob M 5 v2).bind fun _ => (f_X5_hasDesk M v2 x2).bind fun v4 =>
    (if v4 = 0 then
      some ((-1 : Int32), M)
    else
      (if x3 < 0 then
        some ((-1 : Int32), M)
      else
        (ob M 5 v2).bind fun _ => (f_X5_everybody M v2).bind fun v7 =>
        (if x3 ≤ v7 then
          (gR M 11 x0 4).bind fun v9 =>
          (ob M 3 v9).bind fun _ => (f_X3_asTold M v9 v2 x2 x3 1000).bind fun z10 =>
          (gR z10 11 x0 4).bind fun v11 =>
          (gI z10 3 v11 0).bind fun v12 =>
          (if v12 = (-1 : Int32) then
            some ((-1 : Int32), z10)
          else
            (if x4 = 0 then
              (gR z10 11 x0 4).bind fun v15 =>
              (gI z10 3 v15 0).bind fun v16 =>
              some (v16, z10)
            else
              (gR z10 11 x0 4).bind fun v17 =>
              (gI z10 3 v17 1).bind fun v18 =>
              some (v18, z10)))
        else
          some ((-1 : Int32), M)))))
set_option maxRecDepth 20000 in
theorem S_X11_who {l : Launch} {G : Gv} {lim : Nat × Nat} (M : Mem) (x0 : Nat) (x1 : Int32) (x2 : Int32) (x3 : Int32) (x4 : Int32) : Sim l G Y_X11_who lim (f_X11_who M x0 x1 x2 x3 x4) (fun z => some (some (.int z.1), z.2)) 0 [some (.inr (.inr x0)), some (.inl x1), some (.inl x2), some (.inl x3), some (.inl x4), none] [] M := by
  unfold f_X11_who
  refine s_run (b := [(.aload_n 0, 1)]) 1 [some (.inr (.inr x0)), some (.inl x1), some (.inl x2), some (.inl x3), some (.inl x4), none] [.inr (.inr x0)] (by decide +kernel) rfl ?_
  refine s_gR fl_11_10 rfl (by decide +kernel) (fun v1 => ?_)
  refine s_run (b := [(.iload_n 1, 1)]) 5 [some (.inr (.inr x0)), some (.inl x1), some (.inl x2), some (.inl x3), some (.inl x4), none] [.inl x1, .inr (.inr v1)] (by decide +kernel) rfl ?_
  refine s_cV (Z := Y_X9_officeAt) (c := 9) (vs := [.inl x1]) (st := []) (rO := fun z => some (.inr (.inr z))) (mO := fun _ => M) zk_X9_officeAt zi_X9_officeAt q716 rfl ⟨by decide, by decide⟩ ⟨rfl, rfl⟩ rfl rfl (Nat.le_of_ble_eq_true rfl) (by decide +kernel) (fun z hz => c_X9_officeAt hz) (fun v2 => ?_)
  change Sim l G Y_X11_who lim _ _ 8 [some (.inr (.inr x0)), some (.inl x1), some (.inl x2), some (.inl x3), some (.inl x4), none] [.inr (.inr v2)] M
  refine s_run (b := [(.astore 5, 2), (.aload 5, 2)]) 12 [some (.inr (.inr x0)), some (.inl x1), some (.inl x2), some (.inl x3), some (.inl x4), some (.inr (.inr v2))] [.inr (.inr v2)] (by decide +kernel) rfl ?_
  refine s_ifnull (tgt := 37) (off := 25) (by decide +kernel) (by decide) (fun h3 => ?_) (fun h3 => ?_)
  · skip
    refine s_run (b := [(.iconst (-1), 1)]) 38 [some (.inr (.inr x0)), some (.inl x1), some (.inl x2), some (.inl x3), some (.inl x4), some (.inr (.inr v2))] [.inl (-1 : Int32)] (by decide +kernel) rfl ?_
    exact s_iret (by decide +kernel) rfl
  · skip
    refine s_run (b := [(.aload 5, 2), (.iload_n 2, 1)]) 18 [some (.inr (.inr x0)), some (.inl x1), some (.inl x2), some (.inl x3), some (.inl x4), some (.inr (.inr v2))] [.inl x2, .inr (.inr v2)] (by decide +kernel) rfl ?_
    refine s_cV (Z := Y_X5_hasDesk) (c := 5) (vs := [.inl x2]) (st := []) (rO := fun z => some (.inl z)) (mO := fun _ => M) zk_X5_hasDesk zi_X5_hasDesk q845 rfl ⟨by decide, by decide⟩ ⟨rfl, rfl⟩ rfl rfl (Nat.le_of_ble_eq_true rfl) (by decide +kernel) (fun z hz => c_X5_hasDesk hz) (fun v4 => ?_)
    change Sim l G Y_X11_who lim _ _ 21 [some (.inr (.inr x0)), some (.inl x1), some (.inl x2), some (.inl x3), some (.inl x4), some (.inr (.inr v2))] [.inl v4] M
    refine s_if_eq (tgt := 37) (off := 16) (by decide +kernel) (by decide) (fun h5 => ?_) (fun h5 => ?_)
    · skip
      refine s_run (b := [(.iconst (-1), 1)]) 38 [some (.inr (.inr x0)), some (.inl x1), some (.inl x2), some (.inl x3), some (.inl x4), some (.inr (.inr v2))] [.inl (-1 : Int32)] (by decide +kernel) rfl ?_
      exact s_iret (by decide +kernel) rfl
    · skip
      refine s_run (b := [(.iload_n 3, 1)]) 25 [some (.inr (.inr x0)), some (.inl x1), some (.inl x2), some (.inl x3), some (.inl x4), some (.inr (.inr v2))] [.inl x3] (by decide +kernel) rfl ?_
      refine s_if_lt (tgt := 37) (off := 12) (by decide +kernel) (by decide) (fun h6 => ?_) (fun h6 => ?_)
      · skip
        refine s_run (b := [(.iconst (-1), 1)]) 38 [some (.inr (.inr x0)), some (.inl x1), some (.inl x2), some (.inl x3), some (.inl x4), some (.inr (.inr v2))] [.inl (-1 : Int32)] (by decide +kernel) rfl ?_
        exact s_iret (by decide +kernel) rfl
      · skip
        refine s_run (b := [(.iload_n 3, 1), (.aload 5, 2)]) 31 [some (.inr (.inr x0)), some (.inl x1), some (.inl x2), some (.inl x3), some (.inl x4), some (.inr (.inr v2))] [.inr (.inr v2), .inl x3] (by decide +kernel) rfl ?_
        refine s_cV (Z := Y_X5_everybody) (c := 5) (vs := []) (st := [.inl x3]) (rO := fun z => some (.inl z)) (mO := fun _ => M) zk_X5_everybody zi_X5_everybody q846 rfl ⟨by decide, by decide⟩ ⟨rfl, rfl⟩ rfl rfl (Nat.le_of_ble_eq_true rfl) (by decide +kernel) (fun z hz => c_X5_everybody hz) (fun v7 => ?_)
        change Sim l G Y_X11_who lim _ _ 34 [some (.inr (.inr x0)), some (.inl x1), some (.inl x2), some (.inl x3), some (.inl x4), some (.inr (.inr v2))] [.inl v7, .inl x3] M
        refine s_ic_le (tgt := 39) (off := 5) (by decide +kernel) (by decide) (fun h8 => ?_) (fun h8 => ?_)
        · skip
          refine s_run (b := [(.aload_n 0, 1)]) 40 [some (.inr (.inr x0)), some (.inl x1), some (.inl x2), some (.inl x3), some (.inl x4), some (.inr (.inr v2))] [.inr (.inr x0)] (by decide +kernel) rfl ?_
          refine s_gR fl_11_34 rfl (by decide +kernel) (fun v9 => ?_)
          refine s_run (b := [(.aload 5, 2), (.iload_n 2, 1), (.iload_n 3, 1)]) 47 [some (.inr (.inr x0)), some (.inl x1), some (.inl x2), some (.inl x3), some (.inl x4), some (.inr (.inr v2))] [.inl x3, .inl x2, .inr (.inr v2), .inr (.inr v9)] (by decide +kernel) rfl ?_
          refine s_gs (j := 0) (by decide) q847 (by decide +kernel) ?_
          change Sim l G Y_X11_who lim _ _ 50 [some (.inr (.inr x0)), some (.inl x1), some (.inl x2), some (.inl x3), some (.inl x4), some (.inr (.inr v2))] [.inr (.inr 1000), .inl x3, .inl x2, .inr (.inr v2), .inr (.inr v9)] M
          refine s_cV (Z := Y_X3_asTold) (c := 3) (vs := [.inr (.inr v2), .inl x2, .inl x3, .inr (.inr 1000)]) (st := []) (rO := fun _ => none) (mO := fun z => z) zk_X3_asTold zi_X3_asTold q849 rfl ⟨by decide, by decide⟩ ⟨rfl, rfl⟩ rfl rfl (Nat.le_of_ble_eq_true rfl) (by decide +kernel) (fun z hz => c_X3_asTold hz) (fun z10 => ?_)
          change Sim l G Y_X11_who lim _ _ 53 [some (.inr (.inr x0)), some (.inl x1), some (.inl x2), some (.inl x3), some (.inl x4), some (.inr (.inr v2))] [] z10
          refine s_run (b := [(.aload_n 0, 1)]) 54 [some (.inr (.inr x0)), some (.inl x1), some (.inl x2), some (.inl x3), some (.inl x4), some (.inr (.inr v2))] [.inr (.inr x0)] (by decide +kernel) rfl ?_
          refine s_gR fl_11_34 rfl (by decide +kernel) (fun v11 => ?_)
          refine s_gI fl_11_147 rfl (by decide +kernel) (fun v12 => ?_)
          refine s_run (b := [(.iconst (-1), 1)]) 61 [some (.inr (.inr x0)), some (.inl x1), some (.inl x2), some (.inl x3), some (.inl x4), some (.inr (.inr v2))] [.inl (-1 : Int32), .inl v12] (by decide +kernel) rfl ?_
          refine s_ic_ne (tgt := 66) (off := 5) (by decide +kernel) (by decide) (fun h13 => ?_) (fun h13 => ?_)
          · skip
            refine s_run (b := [(.iconst (-1), 1)]) 65 [some (.inr (.inr x0)), some (.inl x1), some (.inl x2), some (.inl x3), some (.inl x4), some (.inr (.inr v2))] [.inl (-1 : Int32)] (by decide +kernel) rfl ?_
            exact s_iret (by decide +kernel) rfl
          · skip
            refine s_run (b := [(.iload 4, 2)]) 68 [some (.inr (.inr x0)), some (.inl x1), some (.inl x2), some (.inl x3), some (.inl x4), some (.inr (.inr v2))] [.inl x4] (by decide +kernel) rfl ?_
            refine s_if_eq (tgt := 81) (off := 13) (by decide +kernel) (by decide) (fun h14 => ?_) (fun h14 => ?_)
            · skip
              refine s_run (b := [(.aload_n 0, 1)]) 82 [some (.inr (.inr x0)), some (.inl x1), some (.inl x2), some (.inl x3), some (.inl x4), some (.inr (.inr v2))] [.inr (.inr x0)] (by decide +kernel) rfl ?_
              refine s_gR fl_11_34 rfl (by decide +kernel) (fun v15 => ?_)
              refine s_gI fl_11_147 rfl (by decide +kernel) (fun v16 => ?_)
              exact s_iret (by decide +kernel) rfl
            · skip
              refine s_run (b := [(.aload_n 0, 1)]) 72 [some (.inr (.inr x0)), some (.inl x1), some (.inl x2), some (.inl x3), some (.inl x4), some (.inr (.inr v2))] [.inr (.inr x0)] (by decide +kernel) rfl ?_
              refine s_gR fl_11_34 rfl (by decide +kernel) (fun v17 => ?_)
              refine s_gI fl_11_150 rfl (by decide +kernel) (fun v18 => ?_)
              refine s_run (b := [(.goto 10, 3)]) 88 [some (.inr (.inr x0)), some (.inl x1), some (.inl x2), some (.inl x3), some (.inl x4), some (.inr (.inr v2))] [.inl v18] (by decide +kernel) rfl ?_
              exact s_iret (by decide +kernel) rfl
        · skip
          refine s_run (b := [(.iconst (-1), 1)]) 38 [some (.inr (.inr x0)), some (.inl x1), some (.inl x2), some (.inl x3), some (.inl x4), some (.inr (.inr v2))] [.inl (-1 : Int32)] (by decide +kernel) rfl ?_
          exact s_iret (by decide +kernel) rfl
set_option maxRecDepth 20000 in
theorem c_X11_who {l : Launch} {G : Gv} {M : Mem} {x0 : Nat} {x1 : Int32} {x2 : Int32} {x3 : Int32} {x4 : Int32} {z : Int32 × Mem} (h : f_X11_who M x0 x1 x2 x3 x4 = some z) : MetS l G Y_X11_who [.inr (.inr x0), .inl x1, .inl x2, .inl x3, .inl x4] M (some (.int z.1)) z.2 :=
  met_of (ls0 := [some (.inr (.inr x0)), some (.inl x1), some (.inl x2), some (.inl x3), some (.inl x4), none]) (by decide) rfl (lv_in (m := 1) rfl) (sl_le (Nat.le_of_ble_eq_true rfl)) (by rw [h]; rfl) (Or.inl ⟨rfl, rfl⟩) (S_X11_who M x0 x1 x2 x3 x4)
def f_X12_of (M : Mem) (x0 : Nat) (x1 : Int32) (x2 : Int32) : Option (Int32) :=
  (gR M 12 x0 0).bind fun v1 =>
  (gI M 12 x0 11).bind fun v2 =>
  (aI M 0 v1 (((v2 + (5 : Int32)) + ((5 : Int32) * x1)) + x2)).bind fun v3 =>
  some v3
set_option maxRecDepth 20000 in
theorem S_X12_of {l : Launch} {G : Gv} {lim : Nat × Nat} (M : Mem) (x0 : Nat) (x1 : Int32) (x2 : Int32) : Sim l G Y_X12_of lim (f_X12_of M x0 x1 x2) (fun z => some (some (.int z), M)) 0 [some (.inr (.inr x0)), some (.inl x1), some (.inl x2)] [] M := by
  unfold f_X12_of
  refine s_run (b := [(.aload_n 0, 1)]) 1 [some (.inr (.inr x0)), some (.inl x1), some (.inl x2)] [.inr (.inr x0)] (by decide +kernel) rfl ?_
  refine s_gR fl_12_7 rfl (by decide +kernel) (fun v1 => ?_)
  refine s_run (b := [(.aload_n 0, 1)]) 5 [some (.inr (.inr x0)), some (.inl x1), some (.inl x2)] [.inr (.inr x0), .inr (.inr v1)] (by decide +kernel) rfl ?_
  refine s_gI fl_12_159 rfl (by decide +kernel) (fun v2 => ?_)
  refine s_run (b := [(.iconst 5, 1), (.iadd, 1), (.iconst 5, 1), (.iload_n 1, 1), (.imul, 1), (.iadd, 1), (.iload_n 2, 1), (.iadd, 1)]) 16 [some (.inr (.inr x0)), some (.inl x1), some (.inl x2)] [.inl (((v2 + (5 : Int32)) + ((5 : Int32) * x1)) + x2), .inr (.inr v1)] (by decide +kernel) rfl ?_
  refine s_ia (by decide +kernel) (fun v3 => ?_)
  exact s_iret (by decide +kernel) rfl
set_option maxRecDepth 20000 in
theorem c_X12_of {l : Launch} {G : Gv} {M : Mem} {x0 : Nat} {x1 : Int32} {x2 : Int32} {z : Int32} (h : f_X12_of M x0 x1 x2 = some z) : MetS l G Y_X12_of [.inr (.inr x0), .inl x1, .inl x2] M (some (.int z)) M :=
  met_of (ls0 := [some (.inr (.inr x0)), some (.inl x1), some (.inl x2)]) (by decide) rfl (lv_in (m := 0) rfl) (sl_le (Nat.le_of_ble_eq_true rfl)) (by rw [h]; rfl) (Or.inl ⟨rfl, rfl⟩) (S_X12_of M x0 x1 x2)
def f_X12_asTold_J38 (M : Mem) (x0 : Nat) (x1 : Int32) (y0 : Nat) (y1 : Int32) (y2 : Int32) : Option ((Int32 × Mem) ⊕ ((Mem))) :=
  (sI M 0 y0 y1 y2).bind fun M1 =>
  some (.inl ((x1 + (1 : Int32)), M1))
set_option maxRecDepth 20000 in
theorem J_X12_asTold_38 {l : Launch} {G : Gv} {lim : Nat × Nat} (M : Mem) (x0 : Nat) (x1 : Int32) (y0 : Nat) (y1 : Int32) (y2 : Int32) (K : (Int32 × Mem) ⊕ ((Mem)) → Option (Option Value × Mem)) (kk1 : ∀ (s1 : Int32) (s_ : Mem), SimR l G Y_X12_asTold lim (K (.inl (s1, s_))) 2 [some (.inr (.inr x0)), some (.inl s1)] [] s_) (kk2_0 : ∀ (s_ : Mem), SimR l G Y_X12_asTold lim (K (.inr s_)) 45 [none, none] [] s_) : Sim l G Y_X12_asTold lim (f_X12_asTold_J38 M x0 x1 y0 y1 y2) K 38 [some (.inr (.inr x0)), some (.inl x1)] [.inl y2, .inl y1, .inr (.inr y0)] M := by
  unfold f_X12_asTold_J38
  refine s_is (by decide +kernel) (fun M1 => ?_)
  refine s_run (b := [(.iinc 1 1, 3), (.goto (-40), 3)]) 2 [some (.inr (.inr x0)), some (.inl (x1 + (1 : Int32)))] [] (by decide +kernel) rfl ?_
  exact s_lsub (ls' := [some (.inr (.inr x0)), some (.inl (x1 + (1 : Int32)))]) ⟨rfl, ⟨rfl, trivial⟩⟩ (kk1 (x1 + (1 : Int32)) M1)
def f_X12_asTold_B2 (M : Mem) (x0 : Nat) (x1 : Int32) : Option ((Int32 × Mem) ⊕ ((Mem))) :=
  (if (8 : Int32) ≤ x1 then
    some (.inr M)
  else
    (gR M 12 x0 14).bind fun v2 =>
    (sI M 0 v2 x1 (0 : Int32)).bind fun M3 =>
    (gR M3 12 x0 15).bind fun v4 =>
    (gI M3 12 x0 12).bind fun v5 =>
    (if v5 ≤ x1 then
      f_X12_asTold_J38 M3 x0 x1 v4 x1 (0 : Int32)
    else
      (ob M3 12 x0).bind fun _ => (f_X12_of M3 x0 x1 (0 : Int32)).bind fun v7 =>
      f_X12_asTold_J38 M3 x0 x1 v4 x1 v7))
def f_X12_asTold_L2 (M : Mem) (x0 : Nat) (x1 : Int32) : Option ((Mem)) := iter (fun s : Int32 × Mem => f_X12_asTold_B2 s.2 x0 s.1) 1048576 (x1, M)
set_option maxRecDepth 20000 in
theorem B_X12_asTold_2 {l : Launch} {G : Gv} {lim : Nat × Nat} (M : Mem) (x0 : Nat) (x1 : Int32) (K : (Int32 × Mem) ⊕ ((Mem)) → Option (Option Value × Mem)) (kk1 : ∀ (s1 : Int32) (s_ : Mem), SimR l G Y_X12_asTold lim (K (.inl (s1, s_))) 2 [some (.inr (.inr x0)), some (.inl s1)] [] s_) (kk2_0 : ∀ (s_ : Mem), SimR l G Y_X12_asTold lim (K (.inr s_)) 45 [none, none] [] s_) : Sim l G Y_X12_asTold lim (f_X12_asTold_B2 M x0 x1) K 2 [some (.inr (.inr x0)), some (.inl x1)] [] M := by
  unfold f_X12_asTold_B2
  refine s_run (b := [(.iload_n 1, 1), (.bipush 8, 2)]) 5 [some (.inr (.inr x0)), some (.inl x1)] [.inl (8 : Int32), .inl x1] (by decide +kernel) rfl ?_
  refine s_ic_ge (tgt := 45) (off := 40) (by decide +kernel) (by decide) (fun h1 => ?_) (fun h1 => ?_)
  · skip
    exact s_lsub (ls' := [none, none]) trivial (kk2_0 M)
  · skip
    refine s_run (b := [(.aload_n 0, 1)]) 9 [some (.inr (.inr x0)), some (.inl x1)] [.inr (.inr x0)] (by decide +kernel) rfl ?_
    refine s_gR fl_12_20 rfl (by decide +kernel) (fun v2 => ?_)
    refine s_run (b := [(.iload_n 1, 1), (.iconst 0, 1)]) 14 [some (.inr (.inr x0)), some (.inl x1)] [.inl (0 : Int32), .inl x1, .inr (.inr v2)] (by decide +kernel) rfl ?_
    refine s_is (by decide +kernel) (fun M3 => ?_)
    refine s_run (b := [(.aload_n 0, 1)]) 16 [some (.inr (.inr x0)), some (.inl x1)] [.inr (.inr x0)] (by decide +kernel) rfl ?_
    refine s_gR fl_12_23 rfl (by decide +kernel) (fun v4 => ?_)
    refine s_run (b := [(.iload_n 1, 1), (.iload_n 1, 1), (.aload_n 0, 1)]) 22 [some (.inr (.inr x0)), some (.inl x1)] [.inr (.inr x0), .inl x1, .inl x1, .inr (.inr v4)] (by decide +kernel) rfl ?_
    refine s_gI fl_12_162 rfl (by decide +kernel) (fun v5 => ?_)
    refine s_ic_ge (tgt := 37) (off := 12) (by decide +kernel) (by decide) (fun h6 => ?_) (fun h6 => ?_)
    · skip
      refine s_run (b := [(.iconst 0, 1)]) 38 [some (.inr (.inr x0)), some (.inl x1)] [.inl (0 : Int32), .inl x1, .inr (.inr v4)] (by decide +kernel) rfl ?_
      exact s_lsub (ls' := [some (.inr (.inr x0)), some (.inl x1)]) ⟨rfl, ⟨rfl, trivial⟩⟩ (J_X12_asTold_38 M3 x0 x1 v4 x1 (0 : Int32) K kk1 kk2_0)
    · skip
      refine s_run (b := [(.aload_n 0, 1), (.iload_n 1, 1), (.iconst 0, 1)]) 31 [some (.inr (.inr x0)), some (.inl x1)] [.inl (0 : Int32), .inl x1, .inr (.inr x0), .inl x1, .inr (.inr v4)] (by decide +kernel) rfl ?_
      refine s_cV (Z := Y_X12_of) (c := 12) (vs := [.inl x1, .inl (0 : Int32)]) (st := [.inl x1, .inr (.inr v4)]) (rO := fun z => some (.inl z)) (mO := fun _ => M3) zk_X12_of zi_X12_of q1558 rfl ⟨by decide, by decide⟩ ⟨rfl, rfl⟩ rfl rfl (Nat.le_of_ble_eq_true rfl) (by decide +kernel) (fun z hz => c_X12_of hz) (fun v7 => ?_)
      change Sim l G Y_X12_asTold lim _ _ 34 [some (.inr (.inr x0)), some (.inl x1)] [.inl v7, .inl x1, .inr (.inr v4)] M3
      refine s_run (b := [(.goto 4, 3)]) 38 [some (.inr (.inr x0)), some (.inl x1)] [.inl v7, .inl x1, .inr (.inr v4)] (by decide +kernel) rfl ?_
      exact s_lsub (ls' := [some (.inr (.inr x0)), some (.inl x1)]) ⟨rfl, ⟨rfl, trivial⟩⟩ (J_X12_asTold_38 M3 x0 x1 v4 x1 v7 K kk1 kk2_0)
set_option maxRecDepth 20000 in
theorem L_X12_asTold_2 {l : Launch} {G : Gv} {lim : Nat × Nat} (M : Mem) (x0 : Nat) (x1 : Int32) (K : ((Mem)) → Option (Option Value × Mem)) (kk2_0 : ∀ r : Mem, SimR l G Y_X12_asTold lim (K r) 45 [none, none] [] r) : Sim l G Y_X12_asTold lim (f_X12_asTold_L2 M x0 x1) K 2 [some (.inr (.inr x0)), some (.inl x1)] [] M :=
  s_iter (f := fun s : Int32 × Mem => f_X12_asTold_B2 s.2 x0 s.1) (hd := 2) (cl := fun s => [some (.inr (.inr x0)), some (.inl s.1)]) (cm := fun s => s.2) (xp := fun _ => 45) (xl := fun r => [none, none]) (xm := fun r => r) (fun s K h1 h2 => B_X12_asTold_2 s.2 x0 s.1 K (fun a1 a_ => h1 (a1, a_)) (fun a_ => h2 a_)) 1048576 (x1, M) K kk2_0
def f_X12_asTold (M : Mem) (x0 : Nat) : Option (Mem) :=
  (f_X12_asTold_L2 M x0 (0 : Int32)).bind fun r1 =>
  some r1
set_option maxRecDepth 20000 in
theorem S_X12_asTold {l : Launch} {G : Gv} {lim : Nat × Nat} (M : Mem) (x0 : Nat) : Sim l G Y_X12_asTold lim (f_X12_asTold M x0) (fun z => some (none, z)) 0 [some (.inr (.inr x0)), none] [] M := by
  unfold f_X12_asTold
  refine s_run (b := [(.iconst 0, 1), (.istore_n 1, 1)]) 2 [some (.inr (.inr x0)), some (.inl (0 : Int32))] [] (by decide +kernel) rfl ?_
  refine s_lsub (ls' := [some (.inr (.inr x0)), some (.inl (0 : Int32))]) ⟨rfl, ⟨rfl, trivial⟩⟩ ?_
  refine sim_bind (L_X12_asTold_2 M x0 (0 : Int32) _ (fun r1 => ?_))
  change Sim l G Y_X12_asTold lim _ _ 45 [none, none] [] r1
  exact s_vret (by decide +kernel) rfl
set_option maxRecDepth 20000 in
theorem c_X12_asTold {l : Launch} {G : Gv} {M : Mem} {x0 : Nat} {z : Mem} (h : f_X12_asTold M x0 = some z) : MetS l G Y_X12_asTold [.inr (.inr x0)] M none z :=
  met_of (ls0 := [some (.inr (.inr x0)), none]) (by decide) rfl (lv_in (m := 1) rfl) (sl_le (Nat.le_of_ble_eq_true rfl)) (by rw [h]; rfl) (Or.inl ⟨rfl, rfl⟩) (S_X12_asTold M x0)
def f_X12_begins_B53 (M : Mem) (x0 : Nat) (x1 : Int32) : Option ((Int32 × Mem) ⊕ ((Mem))) :=
  (if (8 : Int32) ≤ x1 then
    some (.inr M)
  else
    (gR M 12 x0 28).bind fun v2 =>
    (sI M 0 v2 x1 (0 : Int32)).bind fun M3 =>
    (gR M3 12 x0 29).bind fun v4 =>
    (sI M3 0 v4 x1 (0 : Int32)).bind fun M5 =>
    some (.inl ((x1 + (1 : Int32)), M5)))
def f_X12_begins_L53 (M : Mem) (x0 : Nat) (x1 : Int32) : Option ((Mem)) := iter (fun s : Int32 × Mem => f_X12_begins_B53 s.2 x0 s.1) 1048576 (x1, M)
set_option maxRecDepth 20000 in
theorem B_X12_begins_53 {l : Launch} {G : Gv} {lim : Nat × Nat} (M : Mem) (x0 : Nat) (x1 : Int32) (K : (Int32 × Mem) ⊕ ((Mem)) → Option (Option Value × Mem)) (kk1 : ∀ (s1 : Int32) (s_ : Mem), SimR l G Y_X12_begins lim (K (.inl (s1, s_))) 53 [some (.inr (.inr x0)), some (.inl s1)] [] s_) (kk2_0 : ∀ (s_ : Mem), SimR l G Y_X12_begins lim (K (.inr s_)) 79 [none, none] [] s_) : Sim l G Y_X12_begins lim (f_X12_begins_B53 M x0 x1) K 53 [some (.inr (.inr x0)), some (.inl x1)] [] M := by
  unfold f_X12_begins_B53
  refine s_run (b := [(.iload_n 1, 1), (.bipush 8, 2)]) 56 [some (.inr (.inr x0)), some (.inl x1)] [.inl (8 : Int32), .inl x1] (by decide +kernel) rfl ?_
  refine s_ic_ge (tgt := 79) (off := 23) (by decide +kernel) (by decide) (fun h1 => ?_) (fun h1 => ?_)
  · skip
    exact s_lsub (ls' := [none, none]) trivial (kk2_0 M)
  · skip
    refine s_run (b := [(.aload_n 0, 1)]) 60 [some (.inr (.inr x0)), some (.inl x1)] [.inr (.inr x0)] (by decide +kernel) rfl ?_
    refine s_gR fl_12_26 rfl (by decide +kernel) (fun v2 => ?_)
    refine s_run (b := [(.iload_n 1, 1), (.iconst 0, 1)]) 65 [some (.inr (.inr x0)), some (.inl x1)] [.inl (0 : Int32), .inl x1, .inr (.inr v2)] (by decide +kernel) rfl ?_
    refine s_is (by decide +kernel) (fun M3 => ?_)
    refine s_run (b := [(.aload_n 0, 1)]) 67 [some (.inr (.inr x0)), some (.inl x1)] [.inr (.inr x0)] (by decide +kernel) rfl ?_
    refine s_gR fl_12_29 rfl (by decide +kernel) (fun v4 => ?_)
    refine s_run (b := [(.iload_n 1, 1), (.iconst 0, 1)]) 72 [some (.inr (.inr x0)), some (.inl x1)] [.inl (0 : Int32), .inl x1, .inr (.inr v4)] (by decide +kernel) rfl ?_
    refine s_is (by decide +kernel) (fun M5 => ?_)
    refine s_run (b := [(.iinc 1 1, 3), (.goto (-23), 3)]) 53 [some (.inr (.inr x0)), some (.inl (x1 + (1 : Int32)))] [] (by decide +kernel) rfl ?_
    exact s_lsub (ls' := [some (.inr (.inr x0)), some (.inl (x1 + (1 : Int32)))]) ⟨rfl, ⟨rfl, trivial⟩⟩ (kk1 (x1 + (1 : Int32)) M5)
set_option maxRecDepth 20000 in
theorem L_X12_begins_53 {l : Launch} {G : Gv} {lim : Nat × Nat} (M : Mem) (x0 : Nat) (x1 : Int32) (K : ((Mem)) → Option (Option Value × Mem)) (kk2_0 : ∀ r : Mem, SimR l G Y_X12_begins lim (K r) 79 [none, none] [] r) : Sim l G Y_X12_begins lim (f_X12_begins_L53 M x0 x1) K 53 [some (.inr (.inr x0)), some (.inl x1)] [] M :=
  s_iter (f := fun s : Int32 × Mem => f_X12_begins_B53 s.2 x0 s.1) (hd := 53) (cl := fun s => [some (.inr (.inr x0)), some (.inl s.1)]) (cm := fun s => s.2) (xp := fun _ => 79) (xl := fun r => [none, none]) (xm := fun r => r) (fun s K h1 h2 => B_X12_begins_53 s.2 x0 s.1 K (fun a1 a_ => h1 (a1, a_)) (fun a_ => h2 a_)) 1048576 (x1, M) K kk2_0
def f_X12_begins (M : Mem) (x0 : Nat) : Option (Mem) :=
  (ob M 12 x0).bind fun _ => (f_X12_asTold M x0).bind fun z1 =>
  (gI z1 12 x0 12).bind fun v2 =>
  (pI z1 12 x0 20 (((1 : Int32) <<< (v2 &&& 31)) - (1 : Int32))).bind fun M3 =>
  (pI M3 12 x0 21 (0 : Int32)).bind fun M4 =>
  (pI M4 12 x0 22 (0 : Int32)).bind fun M5 =>
  (pI M5 12 x0 23 (0 : Int32)).bind fun M6 =>
  (pI M6 12 x0 24 (0 : Int32)).bind fun M7 =>
  (pI M7 12 x0 25 (0 : Int32)).bind fun M8 =>
  (pI M8 12 x0 26 (0 : Int32)).bind fun M9 =>
  (pI M9 12 x0 27 (0 : Int32)).bind fun M10 =>
  (f_X12_begins_L53 M10 x0 (0 : Int32)).bind fun r11 =>
  some r11
set_option maxRecDepth 20000 in
theorem S_X12_begins {l : Launch} {G : Gv} {lim : Nat × Nat} (M : Mem) (x0 : Nat) : Sim l G Y_X12_begins lim (f_X12_begins M x0) (fun z => some (none, z)) 0 [some (.inr (.inr x0)), none] [] M := by
  unfold f_X12_begins
  refine s_run (b := [(.aload_n 0, 1)]) 1 [some (.inr (.inr x0)), none] [.inr (.inr x0)] (by decide +kernel) rfl ?_
  refine s_cV (Z := Y_X12_asTold) (c := 12) (vs := []) (st := []) (rO := fun _ => none) (mO := fun z => z) zk_X12_asTold zi_X12_asTold q1590 rfl ⟨by decide, by decide⟩ ⟨rfl, rfl⟩ rfl rfl (Nat.le_of_ble_eq_true rfl) (by decide +kernel) (fun z hz => c_X12_asTold hz) (fun z1 => ?_)
  change Sim l G Y_X12_begins lim _ _ 4 [some (.inr (.inr x0)), none] [] z1
  refine s_run (b := [(.aload_n 0, 1), (.iconst 1, 1), (.aload_n 0, 1)]) 7 [some (.inr (.inr x0)), none] [.inr (.inr x0), .inl (1 : Int32), .inr (.inr x0)] (by decide +kernel) rfl ?_
  refine s_gI fl_12_162 rfl (by decide +kernel) (fun v2 => ?_)
  refine s_run (b := [(.ishl, 1), (.iconst 1, 1), (.isub, 1)]) 13 [some (.inr (.inr x0)), none] [.inl (((1 : Int32) <<< (v2 &&& 31)) - (1 : Int32)), .inr (.inr x0)] (by decide +kernel) rfl ?_
  refine s_pI fl_12_217 (Or.inl rfl) rfl (by decide +kernel) (fun M3 => ?_)
  refine s_run (b := [(.aload_n 0, 1), (.iconst 0, 1)]) 18 [some (.inr (.inr x0)), none] [.inl (0 : Int32), .inr (.inr x0)] (by decide +kernel) rfl ?_
  refine s_pI fl_12_220 (Or.inl rfl) rfl (by decide +kernel) (fun M4 => ?_)
  refine s_run (b := [(.aload_n 0, 1), (.iconst 0, 1)]) 23 [some (.inr (.inr x0)), none] [.inl (0 : Int32), .inr (.inr x0)] (by decide +kernel) rfl ?_
  refine s_pI fl_12_223 (Or.inl rfl) rfl (by decide +kernel) (fun M5 => ?_)
  refine s_run (b := [(.aload_n 0, 1), (.iconst 0, 1)]) 28 [some (.inr (.inr x0)), none] [.inl (0 : Int32), .inr (.inr x0)] (by decide +kernel) rfl ?_
  refine s_pI fl_12_226 (Or.inl rfl) rfl (by decide +kernel) (fun M6 => ?_)
  refine s_run (b := [(.aload_n 0, 1), (.iconst 0, 1)]) 33 [some (.inr (.inr x0)), none] [.inl (0 : Int32), .inr (.inr x0)] (by decide +kernel) rfl ?_
  refine s_pI fl_12_229 (Or.inl rfl) rfl (by decide +kernel) (fun M7 => ?_)
  refine s_run (b := [(.aload_n 0, 1), (.iconst 0, 1)]) 38 [some (.inr (.inr x0)), none] [.inl (0 : Int32), .inr (.inr x0)] (by decide +kernel) rfl ?_
  refine s_pI fl_12_232 (Or.inl rfl) rfl (by decide +kernel) (fun M8 => ?_)
  refine s_run (b := [(.aload_n 0, 1), (.iconst 0, 1)]) 43 [some (.inr (.inr x0)), none] [.inl (0 : Int32), .inr (.inr x0)] (by decide +kernel) rfl ?_
  refine s_pI fl_12_235 (Or.inl rfl) rfl (by decide +kernel) (fun M9 => ?_)
  refine s_run (b := [(.aload_n 0, 1), (.iconst 0, 1)]) 48 [some (.inr (.inr x0)), none] [.inl (0 : Int32), .inr (.inr x0)] (by decide +kernel) rfl ?_
  refine s_pI fl_12_238 (Or.inl rfl) rfl (by decide +kernel) (fun M10 => ?_)
  refine s_run (b := [(.iconst 0, 1), (.istore_n 1, 1)]) 53 [some (.inr (.inr x0)), some (.inl (0 : Int32))] [] (by decide +kernel) rfl ?_
  refine s_lsub (ls' := [some (.inr (.inr x0)), some (.inl (0 : Int32))]) ⟨rfl, ⟨rfl, trivial⟩⟩ ?_
  refine sim_bind (L_X12_begins_53 M10 x0 (0 : Int32) _ (fun r11 => ?_))
  change Sim l G Y_X12_begins lim _ _ 79 [none, none] [] r11
  exact s_vret (by decide +kernel) rfl
set_option maxRecDepth 20000 in
theorem c_X12_begins {l : Launch} {G : Gv} {M : Mem} {x0 : Nat} {z : Mem} (h : f_X12_begins M x0 = some z) : MetS l G Y_X12_begins [.inr (.inr x0)] M none z :=
  met_of (ls0 := [some (.inr (.inr x0)), none]) (by decide) rfl (lv_in (m := 1) rfl) (sl_le (Nat.le_of_ble_eq_true rfl)) (by rw [h]; rfl) (Or.inl ⟨rfl, rfl⟩) (S_X12_begins M x0)
def f_X12_gotBy (M : Mem) (x0 : Nat) (x1 : Int32) (x2 : Int32) : Option (Int32) :=
  (gR M 12 x0 0).bind fun v1 =>
  (gI M 12 x0 11).bind fun v2 =>
  (aI M 0 v1 (v2 + (4 : Int32))).bind fun v3 =>
  (if (x1 - (v3 * (x2 - (1 : Int32)))) ≤ 0 then
    some (0 : Int32)
  else
    some (x1 - (v3 * (x2 - (1 : Int32)))))
set_option maxRecDepth 20000 in
theorem S_X12_gotBy {l : Launch} {G : Gv} {lim : Nat × Nat} (M : Mem) (x0 : Nat) (x1 : Int32) (x2 : Int32) : Sim l G Y_X12_gotBy lim (f_X12_gotBy M x0 x1 x2) (fun z => some (some (.int z), M)) 0 [some (.inr (.inr x0)), some (.inl x1), some (.inl x2), none] [] M := by
  unfold f_X12_gotBy
  refine s_run (b := [(.iload_n 1, 1), (.aload_n 0, 1)]) 2 [some (.inr (.inr x0)), some (.inl x1), some (.inl x2), none] [.inr (.inr x0), .inl x1] (by decide +kernel) rfl ?_
  refine s_gR fl_12_7 rfl (by decide +kernel) (fun v1 => ?_)
  refine s_run (b := [(.aload_n 0, 1)]) 6 [some (.inr (.inr x0)), some (.inl x1), some (.inl x2), none] [.inr (.inr x0), .inr (.inr v1), .inl x1] (by decide +kernel) rfl ?_
  refine s_gI fl_12_159 rfl (by decide +kernel) (fun v2 => ?_)
  refine s_run (b := [(.iconst 4, 1), (.iadd, 1)]) 11 [some (.inr (.inr x0)), some (.inl x1), some (.inl x2), none] [.inl (v2 + (4 : Int32)), .inr (.inr v1), .inl x1] (by decide +kernel) rfl ?_
  refine s_ia (by decide +kernel) (fun v3 => ?_)
  refine s_run (b := [(.iload_n 2, 1), (.iconst 1, 1), (.isub, 1), (.imul, 1), (.isub, 1), (.istore_n 3, 1), (.iload_n 3, 1)]) 19 [some (.inr (.inr x0)), some (.inl x1), some (.inl x2), some (.inl (x1 - (v3 * (x2 - (1 : Int32)))))] [.inl (x1 - (v3 * (x2 - (1 : Int32))))] (by decide +kernel) rfl ?_
  refine s_if_le (tgt := 26) (off := 7) (by decide +kernel) (by decide) (fun h4 => ?_) (fun h4 => ?_)
  · skip
    refine s_run (b := [(.iconst 0, 1)]) 27 [some (.inr (.inr x0)), some (.inl x1), some (.inl x2), some (.inl (x1 - (v3 * (x2 - (1 : Int32)))))] [.inl (0 : Int32)] (by decide +kernel) rfl ?_
    exact s_iret (by decide +kernel) rfl
  · skip
    refine s_run (b := [(.iload_n 3, 1), (.goto 4, 3)]) 27 [some (.inr (.inr x0)), some (.inl x1), some (.inl x2), some (.inl (x1 - (v3 * (x2 - (1 : Int32)))))] [.inl (x1 - (v3 * (x2 - (1 : Int32))))] (by decide +kernel) rfl ?_
    exact s_iret (by decide +kernel) rfl
set_option maxRecDepth 20000 in
theorem c_X12_gotBy {l : Launch} {G : Gv} {M : Mem} {x0 : Nat} {x1 : Int32} {x2 : Int32} {z : Int32} (h : f_X12_gotBy M x0 x1 x2 = some z) : MetS l G Y_X12_gotBy [.inr (.inr x0), .inl x1, .inl x2] M (some (.int z)) M :=
  met_of (ls0 := [some (.inr (.inr x0)), some (.inl x1), some (.inl x2), none]) (by decide) rfl (lv_in (m := 1) rfl) (sl_le (Nat.le_of_ble_eq_true rfl)) (by rw [h]; rfl) (Or.inl ⟨rfl, rfl⟩) (S_X12_gotBy M x0 x1 x2)
def f_X12_ofCall (M : Mem) (x0 : Nat) (x1 : Int32) (x2 : Int32) : Option (Int32) :=
  (gR M 12 x0 0).bind fun v1 =>
  (gI M 12 x0 11).bind fun v2 =>
  (aI M 0 v1 (((v2 + (45 : Int32)) + ((3 : Int32) * x1)) + x2)).bind fun v3 =>
  some v3
set_option maxRecDepth 20000 in
theorem S_X12_ofCall {l : Launch} {G : Gv} {lim : Nat × Nat} (M : Mem) (x0 : Nat) (x1 : Int32) (x2 : Int32) : Sim l G Y_X12_ofCall lim (f_X12_ofCall M x0 x1 x2) (fun z => some (some (.int z), M)) 0 [some (.inr (.inr x0)), some (.inl x1), some (.inl x2)] [] M := by
  unfold f_X12_ofCall
  refine s_run (b := [(.aload_n 0, 1)]) 1 [some (.inr (.inr x0)), some (.inl x1), some (.inl x2)] [.inr (.inr x0)] (by decide +kernel) rfl ?_
  refine s_gR fl_12_7 rfl (by decide +kernel) (fun v1 => ?_)
  refine s_run (b := [(.aload_n 0, 1)]) 5 [some (.inr (.inr x0)), some (.inl x1), some (.inl x2)] [.inr (.inr x0), .inr (.inr v1)] (by decide +kernel) rfl ?_
  refine s_gI fl_12_159 rfl (by decide +kernel) (fun v2 => ?_)
  refine s_run (b := [(.bipush 45, 2), (.iadd, 1), (.iconst 3, 1), (.iload_n 1, 1), (.imul, 1), (.iadd, 1), (.iload_n 2, 1), (.iadd, 1)]) 17 [some (.inr (.inr x0)), some (.inl x1), some (.inl x2)] [.inl (((v2 + (45 : Int32)) + ((3 : Int32) * x1)) + x2), .inr (.inr v1)] (by decide +kernel) rfl ?_
  refine s_ia (by decide +kernel) (fun v3 => ?_)
  exact s_iret (by decide +kernel) rfl
set_option maxRecDepth 20000 in
theorem c_X12_ofCall {l : Launch} {G : Gv} {M : Mem} {x0 : Nat} {x1 : Int32} {x2 : Int32} {z : Int32} (h : f_X12_ofCall M x0 x1 x2 = some z) : MetS l G Y_X12_ofCall [.inr (.inr x0), .inl x1, .inl x2] M (some (.int z)) M :=
  met_of (ls0 := [some (.inr (.inr x0)), some (.inl x1), some (.inl x2)]) (by decide) rfl (lv_in (m := 0) rfl) (sl_le (Nat.le_of_ble_eq_true rfl)) (by rw [h]; rfl) (Or.inl ⟨rfl, rfl⟩) (S_X12_ofCall M x0 x1 x2)
def f_X12_isLifted (M : Mem) (x0 : Nat) (x1 : Int32) : Option (Int32) :=
  (gI M 12 x0 16).bind fun v1 =>
  (if v1 = (-1 : Int32) then
    some (0 : Int32)
  else
    (gI M 12 x0 17).bind fun v3 =>
    (ob M 12 x0).bind fun _ => (f_X12_ofCall M x0 x1 (2 : Int32)).bind fun v4 =>
    (if v3 ≤ v4 then
      (gR M 12 x0 0).bind fun v6 =>
      (gI M 12 x0 11).bind fun v7 =>
      (aI M 0 v6 (v7 + (3 : Int32))).bind fun v8 =>
      (if v8 = 0 then
        some (1 : Int32)
      else
        (gI M 12 x0 17).bind fun v10 =>
        (gR M 12 x0 0).bind fun v11 =>
        (gI M 12 x0 11).bind fun v12 =>
        (aI M 0 v11 (v12 + (3 : Int32))).bind fun v13 =>
        (if v13 < v10 then
          some (0 : Int32)
        else
          some (1 : Int32)))
    else
      some (0 : Int32)))
set_option maxRecDepth 20000 in
theorem S_X12_isLifted {l : Launch} {G : Gv} {lim : Nat × Nat} (M : Mem) (x0 : Nat) (x1 : Int32) : Sim l G Y_X12_isLifted lim (f_X12_isLifted M x0 x1) (fun z => some (some (.int z), M)) 0 [some (.inr (.inr x0)), some (.inl x1)] [] M := by
  unfold f_X12_isLifted
  refine s_run (b := [(.aload_n 0, 1)]) 1 [some (.inr (.inr x0)), some (.inl x1)] [.inr (.inr x0)] (by decide +kernel) rfl ?_
  refine s_gI fl_12_195 rfl (by decide +kernel) (fun v1 => ?_)
  refine s_run (b := [(.iconst (-1), 1)]) 5 [some (.inr (.inr x0)), some (.inl x1)] [.inl (-1 : Int32), .inl v1] (by decide +kernel) rfl ?_
  refine s_ic_eq (tgt := 21) (off := 16) (by decide +kernel) (by decide) (fun h2 => ?_) (fun h2 => ?_)
  · skip
    refine s_run (b := [(.iconst 0, 1)]) 22 [some (.inr (.inr x0)), some (.inl x1)] [.inl (0 : Int32)] (by decide +kernel) rfl ?_
    exact s_bret (Or.inl rfl) (by decide +kernel) rfl
  · skip
    refine s_run (b := [(.aload_n 0, 1)]) 9 [some (.inr (.inr x0)), some (.inl x1)] [.inr (.inr x0)] (by decide +kernel) rfl ?_
    refine s_gI fl_12_198 rfl (by decide +kernel) (fun v3 => ?_)
    refine s_run (b := [(.aload_n 0, 1), (.iload_n 1, 1), (.iconst 2, 1)]) 15 [some (.inr (.inr x0)), some (.inl x1)] [.inl (2 : Int32), .inl x1, .inr (.inr x0), .inl v3] (by decide +kernel) rfl ?_
    refine s_cV (Z := Y_X12_ofCall) (c := 12) (vs := [.inl x1, .inl (2 : Int32)]) (st := [.inl v3]) (rO := fun z => some (.inl z)) (mO := fun _ => M) zk_X12_ofCall zi_X12_ofCall q1566 rfl ⟨by decide, by decide⟩ ⟨rfl, rfl⟩ rfl rfl (Nat.le_of_ble_eq_true rfl) (by decide +kernel) (fun z hz => c_X12_ofCall hz) (fun v4 => ?_)
    change Sim l G Y_X12_isLifted lim _ _ 18 [some (.inr (.inr x0)), some (.inl x1)] [.inl v4, .inl v3] M
    refine s_ic_le (tgt := 23) (off := 5) (by decide +kernel) (by decide) (fun h5 => ?_) (fun h5 => ?_)
    · skip
      refine s_run (b := [(.aload_n 0, 1)]) 24 [some (.inr (.inr x0)), some (.inl x1)] [.inr (.inr x0)] (by decide +kernel) rfl ?_
      refine s_gR fl_12_7 rfl (by decide +kernel) (fun v6 => ?_)
      refine s_run (b := [(.aload_n 0, 1)]) 28 [some (.inr (.inr x0)), some (.inl x1)] [.inr (.inr x0), .inr (.inr v6)] (by decide +kernel) rfl ?_
      refine s_gI fl_12_159 rfl (by decide +kernel) (fun v7 => ?_)
      refine s_run (b := [(.iconst 3, 1), (.iadd, 1)]) 33 [some (.inr (.inr x0)), some (.inl x1)] [.inl (v7 + (3 : Int32)), .inr (.inr v6)] (by decide +kernel) rfl ?_
      refine s_ia (by decide +kernel) (fun v8 => ?_)
      refine s_if_eq (tgt := 55) (off := 21) (by decide +kernel) (by decide) (fun h9 => ?_) (fun h9 => ?_)
      · skip
        refine s_run (b := [(.iconst 1, 1), (.goto 4, 3)]) 60 [some (.inr (.inr x0)), some (.inl x1)] [.inl (1 : Int32)] (by decide +kernel) rfl ?_
        exact s_bret (Or.inr rfl) (by decide +kernel) rfl
      · skip
        refine s_run (b := [(.aload_n 0, 1)]) 38 [some (.inr (.inr x0)), some (.inl x1)] [.inr (.inr x0)] (by decide +kernel) rfl ?_
        refine s_gI fl_12_198 rfl (by decide +kernel) (fun v10 => ?_)
        refine s_run (b := [(.aload_n 0, 1)]) 42 [some (.inr (.inr x0)), some (.inl x1)] [.inr (.inr x0), .inl v10] (by decide +kernel) rfl ?_
        refine s_gR fl_12_7 rfl (by decide +kernel) (fun v11 => ?_)
        refine s_run (b := [(.aload_n 0, 1)]) 46 [some (.inr (.inr x0)), some (.inl x1)] [.inr (.inr x0), .inr (.inr v11), .inl v10] (by decide +kernel) rfl ?_
        refine s_gI fl_12_159 rfl (by decide +kernel) (fun v12 => ?_)
        refine s_run (b := [(.iconst 3, 1), (.iadd, 1)]) 51 [some (.inr (.inr x0)), some (.inl x1)] [.inl (v12 + (3 : Int32)), .inr (.inr v11), .inl v10] (by decide +kernel) rfl ?_
        refine s_ia (by decide +kernel) (fun v13 => ?_)
        refine s_ic_gt (tgt := 59) (off := 7) (by decide +kernel) (by decide) (fun h14 => ?_) (fun h14 => ?_)
        · skip
          refine s_run (b := [(.iconst 0, 1)]) 60 [some (.inr (.inr x0)), some (.inl x1)] [.inl (0 : Int32)] (by decide +kernel) rfl ?_
          exact s_bret (Or.inl rfl) (by decide +kernel) rfl
        · skip
          refine s_run (b := [(.iconst 1, 1), (.goto 4, 3)]) 60 [some (.inr (.inr x0)), some (.inl x1)] [.inl (1 : Int32)] (by decide +kernel) rfl ?_
          exact s_bret (Or.inr rfl) (by decide +kernel) rfl
    · skip
      refine s_run (b := [(.iconst 0, 1)]) 22 [some (.inr (.inr x0)), some (.inl x1)] [.inl (0 : Int32)] (by decide +kernel) rfl ?_
      exact s_bret (Or.inl rfl) (by decide +kernel) rfl
set_option maxRecDepth 20000 in
theorem c_X12_isLifted {l : Launch} {G : Gv} {M : Mem} {x0 : Nat} {x1 : Int32} {z : Int32} (h : f_X12_isLifted M x0 x1 = some z) : MetS l G Y_X12_isLifted [.inr (.inr x0), .inl x1] M (some (.int z)) M :=
  met_of (ls0 := [some (.inr (.inr x0)), some (.inl x1)]) (by decide) rfl (lv_in (m := 0) rfl) (sl_le (Nat.le_of_ble_eq_true rfl)) (by rw [h]; rfl) (Or.inl ⟨rfl, rfl⟩) (S_X12_isLifted M x0 x1)
def f_X12_off (M : Mem) (x0 : Nat) (x1 : Int32) (x2 : Int32) : Option (Int32) :=
  (ob M 12 x0).bind fun _ => (f_X12_of M x0 x1 (1 : Int32)).bind fun v1 =>
  (ob M 12 x0).bind fun _ => (f_X12_of M x0 x2 (1 : Int32)).bind fun v2 =>
  (if v1 ≤ v2 then
    (ob M 12 x0).bind fun _ => (f_X12_of M x0 x2 (1 : Int32)).bind fun v4 =>
    (ob M 12 x0).bind fun _ => (f_X12_of M x0 x1 (1 : Int32)).bind fun v5 =>
    some (v4 - v5)
  else
    (ob M 12 x0).bind fun _ => (f_X12_of M x0 x1 (1 : Int32)).bind fun v6 =>
    (ob M 12 x0).bind fun _ => (f_X12_of M x0 x2 (1 : Int32)).bind fun v7 =>
    some (v6 - v7))
set_option maxRecDepth 20000 in
theorem S_X12_off {l : Launch} {G : Gv} {lim : Nat × Nat} (M : Mem) (x0 : Nat) (x1 : Int32) (x2 : Int32) : Sim l G Y_X12_off lim (f_X12_off M x0 x1 x2) (fun z => some (some (.int z), M)) 0 [some (.inr (.inr x0)), some (.inl x1), some (.inl x2)] [] M := by
  unfold f_X12_off
  refine s_run (b := [(.aload_n 0, 1), (.iload_n 1, 1), (.iconst 1, 1)]) 3 [some (.inr (.inr x0)), some (.inl x1), some (.inl x2)] [.inl (1 : Int32), .inl x1, .inr (.inr x0)] (by decide +kernel) rfl ?_
  refine s_cV (Z := Y_X12_of) (c := 12) (vs := [.inl x1, .inl (1 : Int32)]) (st := []) (rO := fun z => some (.inl z)) (mO := fun _ => M) zk_X12_of zi_X12_of q1558 rfl ⟨by decide, by decide⟩ ⟨rfl, rfl⟩ rfl rfl (Nat.le_of_ble_eq_true rfl) (by decide +kernel) (fun z hz => c_X12_of hz) (fun v1 => ?_)
  change Sim l G Y_X12_off lim _ _ 6 [some (.inr (.inr x0)), some (.inl x1), some (.inl x2)] [.inl v1] M
  refine s_run (b := [(.aload_n 0, 1), (.iload_n 2, 1), (.iconst 1, 1)]) 9 [some (.inr (.inr x0)), some (.inl x1), some (.inl x2)] [.inl (1 : Int32), .inl x2, .inr (.inr x0), .inl v1] (by decide +kernel) rfl ?_
  refine s_cV (Z := Y_X12_of) (c := 12) (vs := [.inl x2, .inl (1 : Int32)]) (st := [.inl v1]) (rO := fun z => some (.inl z)) (mO := fun _ => M) zk_X12_of zi_X12_of q1558 rfl ⟨by decide, by decide⟩ ⟨rfl, rfl⟩ rfl rfl (Nat.le_of_ble_eq_true rfl) (by decide +kernel) (fun z hz => c_X12_of hz) (fun v2 => ?_)
  change Sim l G Y_X12_off lim _ _ 12 [some (.inr (.inr x0)), some (.inl x1), some (.inl x2)] [.inl v2, .inl v1] M
  refine s_ic_le (tgt := 31) (off := 19) (by decide +kernel) (by decide) (fun h3 => ?_) (fun h3 => ?_)
  · skip
    refine s_run (b := [(.aload_n 0, 1), (.iload_n 2, 1), (.iconst 1, 1)]) 34 [some (.inr (.inr x0)), some (.inl x1), some (.inl x2)] [.inl (1 : Int32), .inl x2, .inr (.inr x0)] (by decide +kernel) rfl ?_
    refine s_cV (Z := Y_X12_of) (c := 12) (vs := [.inl x2, .inl (1 : Int32)]) (st := []) (rO := fun z => some (.inl z)) (mO := fun _ => M) zk_X12_of zi_X12_of q1558 rfl ⟨by decide, by decide⟩ ⟨rfl, rfl⟩ rfl rfl (Nat.le_of_ble_eq_true rfl) (by decide +kernel) (fun z hz => c_X12_of hz) (fun v4 => ?_)
    change Sim l G Y_X12_off lim _ _ 37 [some (.inr (.inr x0)), some (.inl x1), some (.inl x2)] [.inl v4] M
    refine s_run (b := [(.aload_n 0, 1), (.iload_n 1, 1), (.iconst 1, 1)]) 40 [some (.inr (.inr x0)), some (.inl x1), some (.inl x2)] [.inl (1 : Int32), .inl x1, .inr (.inr x0), .inl v4] (by decide +kernel) rfl ?_
    refine s_cV (Z := Y_X12_of) (c := 12) (vs := [.inl x1, .inl (1 : Int32)]) (st := [.inl v4]) (rO := fun z => some (.inl z)) (mO := fun _ => M) zk_X12_of zi_X12_of q1558 rfl ⟨by decide, by decide⟩ ⟨rfl, rfl⟩ rfl rfl (Nat.le_of_ble_eq_true rfl) (by decide +kernel) (fun z hz => c_X12_of hz) (fun v5 => ?_)
    change Sim l G Y_X12_off lim _ _ 43 [some (.inr (.inr x0)), some (.inl x1), some (.inl x2)] [.inl v5, .inl v4] M
    refine s_run (b := [(.isub, 1)]) 44 [some (.inr (.inr x0)), some (.inl x1), some (.inl x2)] [.inl (v4 - v5)] (by decide +kernel) rfl ?_
    exact s_iret (by decide +kernel) rfl
  · skip
    refine s_run (b := [(.aload_n 0, 1), (.iload_n 1, 1), (.iconst 1, 1)]) 18 [some (.inr (.inr x0)), some (.inl x1), some (.inl x2)] [.inl (1 : Int32), .inl x1, .inr (.inr x0)] (by decide +kernel) rfl ?_
    refine s_cV (Z := Y_X12_of) (c := 12) (vs := [.inl x1, .inl (1 : Int32)]) (st := []) (rO := fun z => some (.inl z)) (mO := fun _ => M) zk_X12_of zi_X12_of q1558 rfl ⟨by decide, by decide⟩ ⟨rfl, rfl⟩ rfl rfl (Nat.le_of_ble_eq_true rfl) (by decide +kernel) (fun z hz => c_X12_of hz) (fun v6 => ?_)
    change Sim l G Y_X12_off lim _ _ 21 [some (.inr (.inr x0)), some (.inl x1), some (.inl x2)] [.inl v6] M
    refine s_run (b := [(.aload_n 0, 1), (.iload_n 2, 1), (.iconst 1, 1)]) 24 [some (.inr (.inr x0)), some (.inl x1), some (.inl x2)] [.inl (1 : Int32), .inl x2, .inr (.inr x0), .inl v6] (by decide +kernel) rfl ?_
    refine s_cV (Z := Y_X12_of) (c := 12) (vs := [.inl x2, .inl (1 : Int32)]) (st := [.inl v6]) (rO := fun z => some (.inl z)) (mO := fun _ => M) zk_X12_of zi_X12_of q1558 rfl ⟨by decide, by decide⟩ ⟨rfl, rfl⟩ rfl rfl (Nat.le_of_ble_eq_true rfl) (by decide +kernel) (fun z hz => c_X12_of hz) (fun v7 => ?_)
    change Sim l G Y_X12_off lim _ _ 27 [some (.inr (.inr x0)), some (.inl x1), some (.inl x2)] [.inl v7, .inl v6] M
    refine s_run (b := [(.isub, 1), (.goto 16, 3)]) 44 [some (.inr (.inr x0)), some (.inl x1), some (.inl x2)] [.inl (v6 - v7)] (by decide +kernel) rfl ?_
    exact s_iret (by decide +kernel) rfl
set_option maxRecDepth 20000 in
theorem c_X12_off {l : Launch} {G : Gv} {M : Mem} {x0 : Nat} {x1 : Int32} {x2 : Int32} {z : Int32} (h : f_X12_off M x0 x1 x2 = some z) : MetS l G Y_X12_off [.inr (.inr x0), .inl x1, .inl x2] M (some (.int z)) M :=
  met_of (ls0 := [some (.inr (.inr x0)), some (.inl x1), some (.inl x2)]) (by decide) rfl (lv_in (m := 0) rfl) (sl_le (Nat.le_of_ble_eq_true rfl)) (by rw [h]; rfl) (Or.inl ⟨rfl, rfl⟩) (S_X12_off M x0 x1 x2)
def f_X12_hears (M : Mem) (x0 : Nat) (x1 : Int32) (x2 : Int32) : Option (Int32) :=
  (if x1 = x2 then
    some (0 : Int32)
  else
    (ob M 12 x0).bind fun _ => (f_X12_off M x0 x1 x2).bind fun v2 =>
    (gR M 12 x0 0).bind fun v3 =>
    (gI M 12 x0 11).bind fun v4 =>
    (aI M 0 v3 (v4 + (2 : Int32))).bind fun v5 =>
    (if v5 < v2 then
      some (0 : Int32)
    else
      some (1 : Int32)))
set_option maxRecDepth 20000 in
theorem S_X12_hears {l : Launch} {G : Gv} {lim : Nat × Nat} (M : Mem) (x0 : Nat) (x1 : Int32) (x2 : Int32) : Sim l G Y_X12_hears lim (f_X12_hears M x0 x1 x2) (fun z => some (some (.int z), M)) 0 [some (.inr (.inr x0)), some (.inl x1), some (.inl x2)] [] M := by
  unfold f_X12_hears
  refine s_run (b := [(.iload_n 1, 1), (.iload_n 2, 1)]) 2 [some (.inr (.inr x0)), some (.inl x1), some (.inl x2)] [.inl x2, .inl x1] (by decide +kernel) rfl ?_
  refine s_ic_eq (tgt := 29) (off := 27) (by decide +kernel) (by decide) (fun h1 => ?_) (fun h1 => ?_)
  · skip
    refine s_run (b := [(.iconst 0, 1)]) 30 [some (.inr (.inr x0)), some (.inl x1), some (.inl x2)] [.inl (0 : Int32)] (by decide +kernel) rfl ?_
    exact s_bret (Or.inl rfl) (by decide +kernel) rfl
  · skip
    refine s_run (b := [(.aload_n 0, 1), (.iload_n 1, 1), (.iload_n 2, 1)]) 8 [some (.inr (.inr x0)), some (.inl x1), some (.inl x2)] [.inl x2, .inl x1, .inr (.inr x0)] (by decide +kernel) rfl ?_
    refine s_cV (Z := Y_X12_off) (c := 12) (vs := [.inl x1, .inl x2]) (st := []) (rO := fun z => some (.inl z)) (mO := fun _ => M) zk_X12_off zi_X12_off q1613 rfl ⟨by decide, by decide⟩ ⟨rfl, rfl⟩ rfl rfl (Nat.le_of_ble_eq_true rfl) (by decide +kernel) (fun z hz => c_X12_off hz) (fun v2 => ?_)
    change Sim l G Y_X12_hears lim _ _ 11 [some (.inr (.inr x0)), some (.inl x1), some (.inl x2)] [.inl v2] M
    refine s_run (b := [(.aload_n 0, 1)]) 12 [some (.inr (.inr x0)), some (.inl x1), some (.inl x2)] [.inr (.inr x0), .inl v2] (by decide +kernel) rfl ?_
    refine s_gR fl_12_7 rfl (by decide +kernel) (fun v3 => ?_)
    refine s_run (b := [(.aload_n 0, 1)]) 16 [some (.inr (.inr x0)), some (.inl x1), some (.inl x2)] [.inr (.inr x0), .inr (.inr v3), .inl v2] (by decide +kernel) rfl ?_
    refine s_gI fl_12_159 rfl (by decide +kernel) (fun v4 => ?_)
    refine s_run (b := [(.iconst 2, 1), (.iadd, 1)]) 21 [some (.inr (.inr x0)), some (.inl x1), some (.inl x2)] [.inl (v4 + (2 : Int32)), .inr (.inr v3), .inl v2] (by decide +kernel) rfl ?_
    refine s_ia (by decide +kernel) (fun v5 => ?_)
    refine s_ic_gt (tgt := 29) (off := 7) (by decide +kernel) (by decide) (fun h6 => ?_) (fun h6 => ?_)
    · skip
      refine s_run (b := [(.iconst 0, 1)]) 30 [some (.inr (.inr x0)), some (.inl x1), some (.inl x2)] [.inl (0 : Int32)] (by decide +kernel) rfl ?_
      exact s_bret (Or.inl rfl) (by decide +kernel) rfl
    · skip
      refine s_run (b := [(.iconst 1, 1), (.goto 4, 3)]) 30 [some (.inr (.inr x0)), some (.inl x1), some (.inl x2)] [.inl (1 : Int32)] (by decide +kernel) rfl ?_
      exact s_bret (Or.inr rfl) (by decide +kernel) rfl
set_option maxRecDepth 20000 in
theorem c_X12_hears {l : Launch} {G : Gv} {M : Mem} {x0 : Nat} {x1 : Int32} {x2 : Int32} {z : Int32} (h : f_X12_hears M x0 x1 x2 = some z) : MetS l G Y_X12_hears [.inr (.inr x0), .inl x1, .inl x2] M (some (.int z)) M :=
  met_of (ls0 := [some (.inr (.inr x0)), some (.inl x1), some (.inl x2)]) (by decide) rfl (lv_in (m := 0) rfl) (sl_le (Nat.le_of_ble_eq_true rfl)) (by rw [h]; rfl) (Or.inl ⟨rfl, rfl⟩) (S_X12_hears M x0 x1 x2)
def f_X12_holds (M : Mem) (x0 : Int32) (x1 : Int32) : Option (Int32) :=
  (if ((x0 >>> (x1 &&& 31)) &&& (1 : Int32)) = (1 : Int32) then
    some (1 : Int32)
  else
    some (0 : Int32))
set_option maxRecDepth 20000 in
theorem S_X12_holds {l : Launch} {G : Gv} {lim : Nat × Nat} (M : Mem) (x0 : Int32) (x1 : Int32) : Sim l G Y_X12_holds lim (f_X12_holds M x0 x1) (fun z => some (some (.int z), M)) 0 [some (.inl x0), some (.inl x1)] [] M := by
  unfold f_X12_holds
  refine s_run (b := [(.iload_n 0, 1), (.iload_n 1, 1), (.ishr, 1), (.iconst 1, 1), (.iand, 1), (.iconst 1, 1)]) 6 [some (.inl x0), some (.inl x1)] [.inl (1 : Int32), .inl ((x0 >>> (x1 &&& 31)) &&& (1 : Int32))] (by decide +kernel) rfl ?_
  refine s_ic_ne (tgt := 13) (off := 7) (by decide +kernel) (by decide) (fun h1 => ?_) (fun h1 => ?_)
  · skip
    refine s_run (b := [(.iconst 1, 1), (.goto 4, 3)]) 14 [some (.inl x0), some (.inl x1)] [.inl (1 : Int32)] (by decide +kernel) rfl ?_
    exact s_bret (Or.inr rfl) (by decide +kernel) rfl
  · skip
    refine s_run (b := [(.iconst 0, 1)]) 14 [some (.inl x0), some (.inl x1)] [.inl (0 : Int32)] (by decide +kernel) rfl ?_
    exact s_bret (Or.inl rfl) (by decide +kernel) rfl
set_option maxRecDepth 20000 in
theorem c_X12_holds {l : Launch} {G : Gv} {M : Mem} {x0 : Int32} {x1 : Int32} {z : Int32} (h : f_X12_holds M x0 x1 = some z) : MetS l G Y_X12_holds [.inl x0, .inl x1] M (some (.int z)) M :=
  met_of (ls0 := [some (.inl x0), some (.inl x1)]) (by decide) rfl (lv_in (m := 0) rfl) (sl_le (Nat.le_of_ble_eq_true rfl)) (by rw [h]; rfl) (Or.inl ⟨rfl, rfl⟩) (S_X12_holds M x0 x1)
def f_X12_isNearest_B6 (M : Mem) (x0 : Nat) (x1 : Int32) (x2 : Int32) (x3 : Int32) (x4 : Int32) (x5 : Int32) : Option ((Int32 × Int32) ⊕ ((Int32))) :=
  (gI M 12 x0 12).bind fun v1 =>
  (if v1 ≤ x5 then
    some (.inr x4)
  else
    (if x4 = 0 then
      some (.inl ((0 : Int32), (x5 + (1 : Int32))))
    else
      (if x5 = x1 then
        some (.inl ((1 : Int32), (x5 + (1 : Int32))))
      else
        (f_X12_holds M x3 x5).bind fun v5 =>
        (if v5 = 0 then
          some (.inl ((1 : Int32), (x5 + (1 : Int32))))
        else
          (ob M 12 x0).bind fun _ => (f_X12_hears M x0 x5 x2).bind fun v7 =>
          (if v7 = 0 then
            some (.inl ((1 : Int32), (x5 + (1 : Int32))))
          else
            (ob M 12 x0).bind fun _ => (f_X12_off M x0 x5 x2).bind fun v9 =>
            (ob M 12 x0).bind fun _ => (f_X12_off M x0 x1 x2).bind fun v10 =>
            (if v9 < v10 then
              some (.inl ((0 : Int32), (x5 + (1 : Int32))))
            else
              some (.inl ((1 : Int32), (x5 + (1 : Int32))))))))))
def f_X12_isNearest_L6 (M : Mem) (x0 : Nat) (x1 : Int32) (x2 : Int32) (x3 : Int32) (x4 : Int32) (x5 : Int32) : Option ((Int32)) := iter (fun s : Int32 × Int32 => f_X12_isNearest_B6 M x0 x1 x2 x3 s.1 s.2) 1048576 (x4, x5)
set_option maxRecDepth 20000 in
theorem B_X12_isNearest_6 {l : Launch} {G : Gv} {lim : Nat × Nat} (M : Mem) (x0 : Nat) (x1 : Int32) (x2 : Int32) (x3 : Int32) (x4 : Int32) (x5 : Int32) (K : (Int32 × Int32) ⊕ ((Int32)) → Option (Option Value × Mem)) (kk1 : ∀ (s4 : Int32) (s5 : Int32), SimR l G Y_X12_isNearest lim (K (.inl (s4, s5))) 6 [some (.inr (.inr x0)), some (.inl x1), some (.inl x2), some (.inl x3), some (.inl s4), some (.inl s5)] [] M) (kk2_0 : ∀ (s4 : Int32), SimR l G Y_X12_isNearest lim (K (.inr s4)) 74 [none, none, none, none, some (.inl s4), none] [] M) : Sim l G Y_X12_isNearest lim (f_X12_isNearest_B6 M x0 x1 x2 x3 x4 x5) K 6 [some (.inr (.inr x0)), some (.inl x1), some (.inl x2), some (.inl x3), some (.inl x4), some (.inl x5)] [] M := by
  unfold f_X12_isNearest_B6
  refine s_run (b := [(.iload 5, 2), (.aload_n 0, 1)]) 9 [some (.inr (.inr x0)), some (.inl x1), some (.inl x2), some (.inl x3), some (.inl x4), some (.inl x5)] [.inr (.inr x0), .inl x5] (by decide +kernel) rfl ?_
  refine s_gI fl_12_162 rfl (by decide +kernel) (fun v1 => ?_)
  refine s_ic_ge (tgt := 74) (off := 62) (by decide +kernel) (by decide) (fun h2 => ?_) (fun h2 => ?_)
  · skip
    exact s_lsub (ls' := [none, none, none, none, some (.inl x4), none]) ⟨rfl, trivial⟩ (kk2_0 x4)
  · skip
    refine s_run (b := [(.iload 4, 2)]) 17 [some (.inr (.inr x0)), some (.inl x1), some (.inl x2), some (.inl x3), some (.inl x4), some (.inl x5)] [.inl x4] (by decide +kernel) rfl ?_
    refine s_if_eq (tgt := 65) (off := 48) (by decide +kernel) (by decide) (fun h3 => ?_) (fun h3 => ?_)
    · skip
      refine s_run (b := [(.iconst 0, 1), (.istore 4, 2), (.iinc 5 1, 3), (.goto (-65), 3)]) 6 [some (.inr (.inr x0)), some (.inl x1), some (.inl x2), some (.inl x3), some (.inl (0 : Int32)), some (.inl (x5 + (1 : Int32)))] [] (by decide +kernel) rfl ?_
      exact s_lsub (ls' := [some (.inr (.inr x0)), some (.inl x1), some (.inl x2), some (.inl x3), some (.inl (0 : Int32)), some (.inl (x5 + (1 : Int32)))]) ⟨rfl, ⟨rfl, ⟨rfl, ⟨rfl, ⟨rfl, ⟨rfl, trivial⟩⟩⟩⟩⟩⟩ (kk1 (0 : Int32) (x5 + (1 : Int32)))
    · skip
      refine s_run (b := [(.iload 5, 2), (.iload_n 1, 1)]) 23 [some (.inr (.inr x0)), some (.inl x1), some (.inl x2), some (.inl x3), some (.inl x4), some (.inl x5)] [.inl x1, .inl x5] (by decide +kernel) rfl ?_
      refine s_ic_eq (tgt := 61) (off := 38) (by decide +kernel) (by decide) (fun h4 => ?_) (fun h4 => ?_)
      · skip
        refine s_run (b := [(.iconst 1, 1), (.goto 4, 3), (.istore 4, 2), (.iinc 5 1, 3), (.goto (-65), 3)]) 6 [some (.inr (.inr x0)), some (.inl x1), some (.inl x2), some (.inl x3), some (.inl (1 : Int32)), some (.inl (x5 + (1 : Int32)))] [] (by decide +kernel) rfl ?_
        exact s_lsub (ls' := [some (.inr (.inr x0)), some (.inl x1), some (.inl x2), some (.inl x3), some (.inl (1 : Int32)), some (.inl (x5 + (1 : Int32)))]) ⟨rfl, ⟨rfl, ⟨rfl, ⟨rfl, ⟨rfl, ⟨rfl, trivial⟩⟩⟩⟩⟩⟩ (kk1 (1 : Int32) (x5 + (1 : Int32)))
      · skip
        refine s_run (b := [(.iload_n 3, 1), (.iload 5, 2)]) 29 [some (.inr (.inr x0)), some (.inl x1), some (.inl x2), some (.inl x3), some (.inl x4), some (.inl x5)] [.inl x5, .inl x3] (by decide +kernel) rfl ?_
        refine s_cS (Z := Y_X12_holds) (vs := [.inl x3, .inl x5]) (st := []) (rO := fun z => some (.inl z)) (mO := fun _ => M) zk_X12_holds q1599 q1598 ⟨by decide, by decide⟩ ⟨rfl, rfl⟩ rfl rfl (Nat.le_of_ble_eq_true rfl) (by decide +kernel) (fun z hz => c_X12_holds hz) (fun v5 => ?_)
        change Sim l G Y_X12_isNearest lim _ _ 32 [some (.inr (.inr x0)), some (.inl x1), some (.inl x2), some (.inl x3), some (.inl x4), some (.inl x5)] [.inl v5] M
        refine s_if_eq (tgt := 61) (off := 29) (by decide +kernel) (by decide) (fun h6 => ?_) (fun h6 => ?_)
        · skip
          refine s_run (b := [(.iconst 1, 1), (.goto 4, 3), (.istore 4, 2), (.iinc 5 1, 3), (.goto (-65), 3)]) 6 [some (.inr (.inr x0)), some (.inl x1), some (.inl x2), some (.inl x3), some (.inl (1 : Int32)), some (.inl (x5 + (1 : Int32)))] [] (by decide +kernel) rfl ?_
          exact s_lsub (ls' := [some (.inr (.inr x0)), some (.inl x1), some (.inl x2), some (.inl x3), some (.inl (1 : Int32)), some (.inl (x5 + (1 : Int32)))]) ⟨rfl, ⟨rfl, ⟨rfl, ⟨rfl, ⟨rfl, ⟨rfl, trivial⟩⟩⟩⟩⟩⟩ (kk1 (1 : Int32) (x5 + (1 : Int32)))
        · skip
          refine s_run (b := [(.aload_n 0, 1), (.iload 5, 2), (.iload_n 2, 1)]) 39 [some (.inr (.inr x0)), some (.inl x1), some (.inl x2), some (.inl x3), some (.inl x4), some (.inl x5)] [.inl x2, .inl x5, .inr (.inr x0)] (by decide +kernel) rfl ?_
          refine s_cV (Z := Y_X12_hears) (c := 12) (vs := [.inl x5, .inl x2]) (st := []) (rO := fun z => some (.inl z)) (mO := fun _ => M) zk_X12_hears zi_X12_hears q1609 rfl ⟨by decide, by decide⟩ ⟨rfl, rfl⟩ rfl rfl (Nat.le_of_ble_eq_true rfl) (by decide +kernel) (fun z hz => c_X12_hears hz) (fun v7 => ?_)
          change Sim l G Y_X12_isNearest lim _ _ 42 [some (.inr (.inr x0)), some (.inl x1), some (.inl x2), some (.inl x3), some (.inl x4), some (.inl x5)] [.inl v7] M
          refine s_if_eq (tgt := 61) (off := 19) (by decide +kernel) (by decide) (fun h8 => ?_) (fun h8 => ?_)
          · skip
            refine s_run (b := [(.iconst 1, 1), (.goto 4, 3), (.istore 4, 2), (.iinc 5 1, 3), (.goto (-65), 3)]) 6 [some (.inr (.inr x0)), some (.inl x1), some (.inl x2), some (.inl x3), some (.inl (1 : Int32)), some (.inl (x5 + (1 : Int32)))] [] (by decide +kernel) rfl ?_
            exact s_lsub (ls' := [some (.inr (.inr x0)), some (.inl x1), some (.inl x2), some (.inl x3), some (.inl (1 : Int32)), some (.inl (x5 + (1 : Int32)))]) ⟨rfl, ⟨rfl, ⟨rfl, ⟨rfl, ⟨rfl, ⟨rfl, trivial⟩⟩⟩⟩⟩⟩ (kk1 (1 : Int32) (x5 + (1 : Int32)))
          · skip
            refine s_run (b := [(.aload_n 0, 1), (.iload 5, 2), (.iload_n 2, 1)]) 49 [some (.inr (.inr x0)), some (.inl x1), some (.inl x2), some (.inl x3), some (.inl x4), some (.inl x5)] [.inl x2, .inl x5, .inr (.inr x0)] (by decide +kernel) rfl ?_
            refine s_cV (Z := Y_X12_off) (c := 12) (vs := [.inl x5, .inl x2]) (st := []) (rO := fun z => some (.inl z)) (mO := fun _ => M) zk_X12_off zi_X12_off q1613 rfl ⟨by decide, by decide⟩ ⟨rfl, rfl⟩ rfl rfl (Nat.le_of_ble_eq_true rfl) (by decide +kernel) (fun z hz => c_X12_off hz) (fun v9 => ?_)
            change Sim l G Y_X12_isNearest lim _ _ 52 [some (.inr (.inr x0)), some (.inl x1), some (.inl x2), some (.inl x3), some (.inl x4), some (.inl x5)] [.inl v9] M
            refine s_run (b := [(.aload_n 0, 1), (.iload_n 1, 1), (.iload_n 2, 1)]) 55 [some (.inr (.inr x0)), some (.inl x1), some (.inl x2), some (.inl x3), some (.inl x4), some (.inl x5)] [.inl x2, .inl x1, .inr (.inr x0), .inl v9] (by decide +kernel) rfl ?_
            refine s_cV (Z := Y_X12_off) (c := 12) (vs := [.inl x1, .inl x2]) (st := [.inl v9]) (rO := fun z => some (.inl z)) (mO := fun _ => M) zk_X12_off zi_X12_off q1613 rfl ⟨by decide, by decide⟩ ⟨rfl, rfl⟩ rfl rfl (Nat.le_of_ble_eq_true rfl) (by decide +kernel) (fun z hz => c_X12_off hz) (fun v10 => ?_)
            change Sim l G Y_X12_isNearest lim _ _ 58 [some (.inr (.inr x0)), some (.inl x1), some (.inl x2), some (.inl x3), some (.inl x4), some (.inl x5)] [.inl v10, .inl v9] M
            refine s_ic_lt (tgt := 65) (off := 7) (by decide +kernel) (by decide) (fun h11 => ?_) (fun h11 => ?_)
            · skip
              refine s_run (b := [(.iconst 0, 1), (.istore 4, 2), (.iinc 5 1, 3), (.goto (-65), 3)]) 6 [some (.inr (.inr x0)), some (.inl x1), some (.inl x2), some (.inl x3), some (.inl (0 : Int32)), some (.inl (x5 + (1 : Int32)))] [] (by decide +kernel) rfl ?_
              exact s_lsub (ls' := [some (.inr (.inr x0)), some (.inl x1), some (.inl x2), some (.inl x3), some (.inl (0 : Int32)), some (.inl (x5 + (1 : Int32)))]) ⟨rfl, ⟨rfl, ⟨rfl, ⟨rfl, ⟨rfl, ⟨rfl, trivial⟩⟩⟩⟩⟩⟩ (kk1 (0 : Int32) (x5 + (1 : Int32)))
            · skip
              refine s_run (b := [(.iconst 1, 1), (.goto 4, 3), (.istore 4, 2), (.iinc 5 1, 3), (.goto (-65), 3)]) 6 [some (.inr (.inr x0)), some (.inl x1), some (.inl x2), some (.inl x3), some (.inl (1 : Int32)), some (.inl (x5 + (1 : Int32)))] [] (by decide +kernel) rfl ?_
              exact s_lsub (ls' := [some (.inr (.inr x0)), some (.inl x1), some (.inl x2), some (.inl x3), some (.inl (1 : Int32)), some (.inl (x5 + (1 : Int32)))]) ⟨rfl, ⟨rfl, ⟨rfl, ⟨rfl, ⟨rfl, ⟨rfl, trivial⟩⟩⟩⟩⟩⟩ (kk1 (1 : Int32) (x5 + (1 : Int32)))
set_option maxRecDepth 20000 in
theorem L_X12_isNearest_6 {l : Launch} {G : Gv} {lim : Nat × Nat} (M : Mem) (x0 : Nat) (x1 : Int32) (x2 : Int32) (x3 : Int32) (x4 : Int32) (x5 : Int32) (K : ((Int32)) → Option (Option Value × Mem)) (kk2_0 : ∀ r : Int32, SimR l G Y_X12_isNearest lim (K r) 74 [none, none, none, none, some (.inl r), none] [] M) : Sim l G Y_X12_isNearest lim (f_X12_isNearest_L6 M x0 x1 x2 x3 x4 x5) K 6 [some (.inr (.inr x0)), some (.inl x1), some (.inl x2), some (.inl x3), some (.inl x4), some (.inl x5)] [] M :=
  s_iter (f := fun s : Int32 × Int32 => f_X12_isNearest_B6 M x0 x1 x2 x3 s.1 s.2) (hd := 6) (cl := fun s => [some (.inr (.inr x0)), some (.inl x1), some (.inl x2), some (.inl x3), some (.inl s.1), some (.inl s.2)]) (cm := fun s => M) (xp := fun _ => 74) (xl := fun r => [none, none, none, none, some (.inl r), none]) (xm := fun r => M) (fun s K h1 h2 => B_X12_isNearest_6 M x0 x1 x2 x3 s.1 s.2 K (fun a4 a5 => h1 (a4, a5)) (fun a4 => h2 a4)) 1048576 (x4, x5) K kk2_0
def f_X12_isNearest (M : Mem) (x0 : Nat) (x1 : Int32) (x2 : Int32) (x3 : Int32) : Option (Int32) :=
  (f_X12_isNearest_L6 M x0 x1 x2 x3 (1 : Int32) (0 : Int32)).bind fun r1 =>
  (zr r1).bind fun w2 => some w2
set_option maxRecDepth 20000 in
theorem S_X12_isNearest {l : Launch} {G : Gv} {lim : Nat × Nat} (M : Mem) (x0 : Nat) (x1 : Int32) (x2 : Int32) (x3 : Int32) : Sim l G Y_X12_isNearest lim (f_X12_isNearest M x0 x1 x2 x3) (fun z => some (some (.int z), M)) 0 [some (.inr (.inr x0)), some (.inl x1), some (.inl x2), some (.inl x3), none, none] [] M := by
  unfold f_X12_isNearest
  refine s_run (b := [(.iconst 1, 1), (.istore 4, 2), (.iconst 0, 1), (.istore 5, 2)]) 6 [some (.inr (.inr x0)), some (.inl x1), some (.inl x2), some (.inl x3), some (.inl (1 : Int32)), some (.inl (0 : Int32))] [] (by decide +kernel) rfl ?_
  refine s_lsub (ls' := [some (.inr (.inr x0)), some (.inl x1), some (.inl x2), some (.inl x3), some (.inl (1 : Int32)), some (.inl (0 : Int32))]) ⟨rfl, ⟨rfl, ⟨rfl, ⟨rfl, ⟨rfl, ⟨rfl, trivial⟩⟩⟩⟩⟩⟩ ?_
  refine sim_bind (L_X12_isNearest_6 M x0 x1 x2 x3 (1 : Int32) (0 : Int32) _ (fun r1 => ?_))
  change Sim l G Y_X12_isNearest lim _ _ 74 [none, none, none, none, some (.inl r1), none] [] M
  refine s_run (b := [(.iload 4, 2)]) 76 [none, none, none, none, some (.inl r1), none] [.inl r1] (by decide +kernel) rfl ?_
  exact s_zr (fun h3 => s_bret h3 (by decide +kernel) rfl)
set_option maxRecDepth 20000 in
theorem c_X12_isNearest {l : Launch} {G : Gv} {M : Mem} {x0 : Nat} {x1 : Int32} {x2 : Int32} {x3 : Int32} {z : Int32} (h : f_X12_isNearest M x0 x1 x2 x3 = some z) : MetS l G Y_X12_isNearest [.inr (.inr x0), .inl x1, .inl x2, .inl x3] M (some (.int z)) M :=
  met_of (ls0 := [some (.inr (.inr x0)), some (.inl x1), some (.inl x2), some (.inl x3), none, none]) (by decide) rfl (lv_in (m := 2) rfl) (sl_le (Nat.le_of_ble_eq_true rfl)) (by rw [h]; rfl) (Or.inl ⟨rfl, rfl⟩) (S_X12_isNearest M x0 x1 x2 x3)
def f_X12_ringOf (M : Mem) (x0 : Nat) (x1 : Int32) (x2 : Int32) (x3 : Int32) : Option (Int32) :=
  (ob M 12 x0).bind fun _ => (f_X12_of M x0 x1 (2 : Int32)).bind fun v1 =>
  (gR M 12 x0 15).bind fun v2 =>
  (aI M 0 v2 x1).bind fun v3 =>
  (if v3 = (1 : Int32) then
    (gR M 12 x0 14).bind fun v5 =>
    (aI M 0 v5 x1).bind fun v6 =>
    (if (v1 - v6) ≤ (1 : Int32) then
      some (1 : Int32)
    else
      (gR M 12 x0 14).bind fun v8 =>
      (aI M 0 v8 x1).bind fun v9 =>
      some (v1 - v9))
  else
  (if v3 = (2 : Int32) then
    some (0 : Int32)
  else
  (if v3 = (3 : Int32) then
    (gR M 12 x0 14).bind fun v12 =>
    (aI M 0 v12 x1).bind fun v13 =>
    some (v1 + v13)
  else
  (if v3 = (4 : Int32) then
    (ob M 12 x0).bind fun _ => (f_X12_isNearest M x0 x1 x2 x3).bind fun v15 =>
    (if v15 = 0 then
      some (0 : Int32)
    else
      some v1)
  else
  some v1))))
set_option maxRecDepth 20000 in
theorem S_X12_ringOf {l : Launch} {G : Gv} {lim : Nat × Nat} (M : Mem) (x0 : Nat) (x1 : Int32) (x2 : Int32) (x3 : Int32) : Sim l G Y_X12_ringOf lim (f_X12_ringOf M x0 x1 x2 x3) (fun z => some (some (.int z), M)) 0 [some (.inr (.inr x0)), some (.inl x1), some (.inl x2), some (.inl x3), none] [] M := by
  unfold f_X12_ringOf
  refine s_run (b := [(.aload_n 0, 1), (.iload_n 1, 1), (.iconst 2, 1)]) 3 [some (.inr (.inr x0)), some (.inl x1), some (.inl x2), some (.inl x3), none] [.inl (2 : Int32), .inl x1, .inr (.inr x0)] (by decide +kernel) rfl ?_
  refine s_cV (Z := Y_X12_of) (c := 12) (vs := [.inl x1, .inl (2 : Int32)]) (st := []) (rO := fun z => some (.inl z)) (mO := fun _ => M) zk_X12_of zi_X12_of q1558 rfl ⟨by decide, by decide⟩ ⟨rfl, rfl⟩ rfl rfl (Nat.le_of_ble_eq_true rfl) (by decide +kernel) (fun z hz => c_X12_of hz) (fun v1 => ?_)
  change Sim l G Y_X12_ringOf lim _ _ 6 [some (.inr (.inr x0)), some (.inl x1), some (.inl x2), some (.inl x3), none] [.inl v1] M
  refine s_run (b := [(.istore 4, 2), (.aload_n 0, 1)]) 9 [some (.inr (.inr x0)), some (.inl x1), some (.inl x2), some (.inl x3), some (.inl v1)] [.inr (.inr x0)] (by decide +kernel) rfl ?_
  refine s_gR fl_12_23 rfl (by decide +kernel) (fun v2 => ?_)
  refine s_run (b := [(.iload_n 1, 1)]) 13 [some (.inr (.inr x0)), some (.inl x1), some (.inl x2), some (.inl x3), some (.inl v1)] [.inl x1, .inr (.inr v2)] (by decide +kernel) rfl ?_
  refine s_ia (by decide +kernel) (fun v3 => ?_)
  refine s_ite (fun h4 => ?_) (fun h4 => ?_)
  · refine s_tabIn (off := 30) (tgt := 44) (dflt := 86) (lo := 1) (hi := 4) (offs := #[30, 57, 59, 69]) (len := 30) (1 : Int32) (by decide +kernel) h4 rfl rfl rfl (by decide) ?_
    change Sim l G Y_X12_ringOf lim _ _ 44 [some (.inr (.inr x0)), some (.inl x1), some (.inl x2), some (.inl x3), some (.inl v1)] [] M
    refine s_run (b := [(.iload 4, 2), (.aload_n 0, 1)]) 47 [some (.inr (.inr x0)), some (.inl x1), some (.inl x2), some (.inl x3), some (.inl v1)] [.inr (.inr x0), .inl v1] (by decide +kernel) rfl ?_
    refine s_gR fl_12_20 rfl (by decide +kernel) (fun v5 => ?_)
    refine s_run (b := [(.iload_n 1, 1)]) 51 [some (.inr (.inr x0)), some (.inl x1), some (.inl x2), some (.inl x3), some (.inl v1)] [.inl x1, .inr (.inr v5), .inl v1] (by decide +kernel) rfl ?_
    refine s_ia (by decide +kernel) (fun v6 => ?_)
    refine s_run (b := [(.isub, 1), (.iconst 1, 1)]) 54 [some (.inr (.inr x0)), some (.inl x1), some (.inl x2), some (.inl x3), some (.inl v1)] [.inl (1 : Int32), .inl (v1 - v6)] (by decide +kernel) rfl ?_
    refine s_ic_le (tgt := 69) (off := 15) (by decide +kernel) (by decide) (fun h7 => ?_) (fun h7 => ?_)
    · skip
      refine s_run (b := [(.iconst 1, 1)]) 70 [some (.inr (.inr x0)), some (.inl x1), some (.inl x2), some (.inl x3), some (.inl v1)] [.inl (1 : Int32)] (by decide +kernel) rfl ?_
      exact s_iret (by decide +kernel) rfl
    · skip
      refine s_run (b := [(.iload 4, 2), (.aload_n 0, 1)]) 60 [some (.inr (.inr x0)), some (.inl x1), some (.inl x2), some (.inl x3), some (.inl v1)] [.inr (.inr x0), .inl v1] (by decide +kernel) rfl ?_
      refine s_gR fl_12_20 rfl (by decide +kernel) (fun v8 => ?_)
      refine s_run (b := [(.iload_n 1, 1)]) 64 [some (.inr (.inr x0)), some (.inl x1), some (.inl x2), some (.inl x3), some (.inl v1)] [.inl x1, .inr (.inr v8), .inl v1] (by decide +kernel) rfl ?_
      refine s_ia (by decide +kernel) (fun v9 => ?_)
      refine s_run (b := [(.isub, 1), (.goto 4, 3)]) 70 [some (.inr (.inr x0)), some (.inl x1), some (.inl x2), some (.inl x3), some (.inl v1)] [.inl (v1 - v9)] (by decide +kernel) rfl ?_
      exact s_iret (by decide +kernel) rfl
  refine s_ite (fun h10 => ?_) (fun h10 => ?_)
  · refine s_tabIn (off := 57) (tgt := 71) (dflt := 86) (lo := 1) (hi := 4) (offs := #[30, 57, 59, 69]) (len := 30) (2 : Int32) (by decide +kernel) h10 rfl rfl rfl (by decide) ?_
    change Sim l G Y_X12_ringOf lim _ _ 71 [some (.inr (.inr x0)), some (.inl x1), some (.inl x2), some (.inl x3), some (.inl v1)] [] M
    refine s_run (b := [(.iconst 0, 1)]) 72 [some (.inr (.inr x0)), some (.inl x1), some (.inl x2), some (.inl x3), some (.inl v1)] [.inl (0 : Int32)] (by decide +kernel) rfl ?_
    exact s_iret (by decide +kernel) rfl
  refine s_ite (fun h11 => ?_) (fun h11 => ?_)
  · refine s_tabIn (off := 59) (tgt := 73) (dflt := 86) (lo := 1) (hi := 4) (offs := #[30, 57, 59, 69]) (len := 30) (3 : Int32) (by decide +kernel) h11 rfl rfl rfl (by decide) ?_
    change Sim l G Y_X12_ringOf lim _ _ 73 [some (.inr (.inr x0)), some (.inl x1), some (.inl x2), some (.inl x3), some (.inl v1)] [] M
    refine s_run (b := [(.iload 4, 2), (.aload_n 0, 1)]) 76 [some (.inr (.inr x0)), some (.inl x1), some (.inl x2), some (.inl x3), some (.inl v1)] [.inr (.inr x0), .inl v1] (by decide +kernel) rfl ?_
    refine s_gR fl_12_20 rfl (by decide +kernel) (fun v12 => ?_)
    refine s_run (b := [(.iload_n 1, 1)]) 80 [some (.inr (.inr x0)), some (.inl x1), some (.inl x2), some (.inl x3), some (.inl v1)] [.inl x1, .inr (.inr v12), .inl v1] (by decide +kernel) rfl ?_
    refine s_ia (by decide +kernel) (fun v13 => ?_)
    refine s_run (b := [(.iadd, 1)]) 82 [some (.inr (.inr x0)), some (.inl x1), some (.inl x2), some (.inl x3), some (.inl v1)] [.inl (v1 + v13)] (by decide +kernel) rfl ?_
    exact s_iret (by decide +kernel) rfl
  refine s_ite (fun h14 => ?_) (fun h14 => ?_)
  · refine s_tabIn (off := 69) (tgt := 83) (dflt := 86) (lo := 1) (hi := 4) (offs := #[30, 57, 59, 69]) (len := 30) (4 : Int32) (by decide +kernel) h14 rfl rfl rfl (by decide) ?_
    change Sim l G Y_X12_ringOf lim _ _ 83 [some (.inr (.inr x0)), some (.inl x1), some (.inl x2), some (.inl x3), some (.inl v1)] [] M
    refine s_run (b := [(.aload_n 0, 1), (.iload_n 1, 1), (.iload_n 2, 1), (.iload_n 3, 1)]) 87 [some (.inr (.inr x0)), some (.inl x1), some (.inl x2), some (.inl x3), some (.inl v1)] [.inl x3, .inl x2, .inl x1, .inr (.inr x0)] (by decide +kernel) rfl ?_
    refine s_cV (Z := Y_X12_isNearest) (c := 12) (vs := [.inl x1, .inl x2, .inl x3]) (st := []) (rO := fun z => some (.inl z)) (mO := fun _ => M) zk_X12_isNearest zi_X12_isNearest q1621 rfl ⟨by decide, by decide⟩ ⟨rfl, rfl⟩ rfl rfl (Nat.le_of_ble_eq_true rfl) (by decide +kernel) (fun z hz => c_X12_isNearest hz) (fun v15 => ?_)
    change Sim l G Y_X12_ringOf lim _ _ 90 [some (.inr (.inr x0)), some (.inl x1), some (.inl x2), some (.inl x3), some (.inl v1)] [.inl v15] M
    refine s_if_eq (tgt := 98) (off := 8) (by decide +kernel) (by decide) (fun h16 => ?_) (fun h16 => ?_)
    · skip
      refine s_run (b := [(.iconst 0, 1)]) 99 [some (.inr (.inr x0)), some (.inl x1), some (.inl x2), some (.inl x3), some (.inl v1)] [.inl (0 : Int32)] (by decide +kernel) rfl ?_
      exact s_iret (by decide +kernel) rfl
    · skip
      refine s_run (b := [(.iload 4, 2), (.goto 4, 3)]) 99 [some (.inr (.inr x0)), some (.inl x1), some (.inl x2), some (.inl x3), some (.inl v1)] [.inl v1] (by decide +kernel) rfl ?_
      exact s_iret (by decide +kernel) rfl
  refine s_tabOut (tgt := 100) (dflt := 86) (lo := 1) (hi := 4) (offs := #[30, 57, 59, 69]) (len := 30) (by decide +kernel) (tab_out (fun k hk => by rcases (show k = 0 ∨ k = 1 ∨ k = 2 ∨ k = 3 by omega) with rfl | rfl | rfl | rfl <;> first | exact i32_ne h4 (by decide) | exact i32_ne h10 (by decide) | exact i32_ne h11 (by decide) | exact i32_ne h14 (by decide))) (by decide) ?_
  change Sim l G Y_X12_ringOf lim _ _ 100 [some (.inr (.inr x0)), some (.inl x1), some (.inl x2), some (.inl x3), some (.inl v1)] [] M
  refine s_run (b := [(.iload 4, 2)]) 102 [some (.inr (.inr x0)), some (.inl x1), some (.inl x2), some (.inl x3), some (.inl v1)] [.inl v1] (by decide +kernel) rfl ?_
  exact s_iret (by decide +kernel) rfl
set_option maxRecDepth 20000 in
theorem c_X12_ringOf {l : Launch} {G : Gv} {M : Mem} {x0 : Nat} {x1 : Int32} {x2 : Int32} {x3 : Int32} {z : Int32} (h : f_X12_ringOf M x0 x1 x2 x3 = some z) : MetS l G Y_X12_ringOf [.inr (.inr x0), .inl x1, .inl x2, .inl x3] M (some (.int z)) M :=
  met_of (ls0 := [some (.inr (.inr x0)), some (.inl x1), some (.inl x2), some (.inl x3), none]) (by decide) rfl (lv_in (m := 1) rfl) (sl_le (Nat.le_of_ble_eq_true rfl)) (by rw [h]; rfl) (Or.inl ⟨rfl, rfl⟩) (S_X12_ringOf M x0 x1 x2 x3)
