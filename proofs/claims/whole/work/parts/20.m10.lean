def f_X12_best_J50 (M : Mem) (x0 : Nat) (x4 : Int32)  : Option ((Int32 × Int32 × Int32 × Mem) ⊕ ((Int32 × Mem))) :=
  (gI M 12 x0 24).bind fun v1 =>
  (gI M 12 x0 25).bind fun v2 =>
  some (.inl (x4, (v1 - v2), (x4 + (1 : Int32)), M))
set_option maxRecDepth 20000 in
theorem J_X12_best_50 {l : Launch} {G : Gv} {lim : Nat × Nat} (M : Mem) (x0 : Nat) (x4 : Int32)  (K : (Int32 × Int32 × Int32 × Mem) ⊕ ((Int32 × Mem)) → Option (Option Value × Mem)) (kk1 : ∀ (s2 : Int32) (s3 : Int32) (s4 : Int32) (s_ : Mem), SimR l G Y_X12_best lim (K (.inl (s2, s3, s4, s_))) 17 [some (.inr (.inr x0)), none, some (.inl s2), some (.inl s3), some (.inl s4)] [] s_) (kk2_0 : ∀ (s2 : Int32) (s_ : Mem), SimR l G Y_X12_best lim (K (.inr (s2, s_))) 69 [none, none, some (.inl s2), none, none] [] s_) : Sim l G Y_X12_best lim (f_X12_best_J50 M x0 x4) K 50 [some (.inr (.inr x0)), none, none, none, some (.inl x4)] [] M := by
  unfold f_X12_best_J50
  refine s_run (b := [(.iload 4, 2), (.istore_n 2, 1), (.aload_n 0, 1)]) 54 [some (.inr (.inr x0)), none, some (.inl x4), none, some (.inl x4)] [.inr (.inr x0)] (by decide +kernel) rfl ?_
  refine s_gI fl_12_229 rfl (by decide +kernel) (fun v1 => ?_)
  refine s_run (b := [(.aload_n 0, 1)]) 58 [some (.inr (.inr x0)), none, some (.inl x4), none, some (.inl x4)] [.inr (.inr x0), .inl v1] (by decide +kernel) rfl ?_
  refine s_gI fl_12_232 rfl (by decide +kernel) (fun v2 => ?_)
  refine s_run (b := [(.isub, 1), (.istore_n 3, 1), (.iinc 4 1, 3), (.goto (-49), 3)]) 17 [some (.inr (.inr x0)), none, some (.inl x4), some (.inl (v1 - v2)), some (.inl (x4 + (1 : Int32)))] [] (by decide +kernel) rfl ?_
  exact s_lsub (ls' := [some (.inr (.inr x0)), none, some (.inl x4), some (.inl (v1 - v2)), some (.inl (x4 + (1 : Int32)))]) ⟨rfl, ⟨rfl, ⟨rfl, ⟨rfl, trivial⟩⟩⟩⟩ (kk1 x4 (v1 - v2) (x4 + (1 : Int32)) M)
def f_X12_best_B17 (M : Mem) (x0 : Nat) (x2 : Int32) (x3 : Int32) (x4 : Int32) : Option ((Int32 × Int32 × Int32 × Mem) ⊕ ((Int32 × Mem))) :=
  (if (4 : Int32) ≤ x4 then
    some (.inr (x2, M))
  else
    (ob M 12 x0).bind fun _ => (f_X12_rules M x0 x4).bind fun z2 =>
    (if x2 = (-1 : Int32) then
      f_X12_best_J50 z2 x0 x4 
    else
      (gI z2 12 x0 24).bind fun v4 =>
      (gI z2 12 x0 25).bind fun v5 =>
      (if x3 < (v4 - v5) then
        f_X12_best_J50 z2 x0 x4 
      else
        some (.inl (x2, x3, (x4 + (1 : Int32)), z2)))))
def f_X12_best_L17 (M : Mem) (x0 : Nat) (x2 : Int32) (x3 : Int32) (x4 : Int32) : Option ((Int32 × Mem)) := iter (fun s : Int32 × Int32 × Int32 × Mem => f_X12_best_B17 s.2.2.2 x0 s.1 s.2.1 s.2.2.1) 1048576 (x2, x3, x4, M)
set_option maxRecDepth 20000 in
theorem B_X12_best_17 {l : Launch} {G : Gv} {lim : Nat × Nat} (M : Mem) (x0 : Nat) (x2 : Int32) (x3 : Int32) (x4 : Int32) (K : (Int32 × Int32 × Int32 × Mem) ⊕ ((Int32 × Mem)) → Option (Option Value × Mem)) (kk1 : ∀ (s2 : Int32) (s3 : Int32) (s4 : Int32) (s_ : Mem), SimR l G Y_X12_best lim (K (.inl (s2, s3, s4, s_))) 17 [some (.inr (.inr x0)), none, some (.inl s2), some (.inl s3), some (.inl s4)] [] s_) (kk2_0 : ∀ (s2 : Int32) (s_ : Mem), SimR l G Y_X12_best lim (K (.inr (s2, s_))) 69 [none, none, some (.inl s2), none, none] [] s_) : Sim l G Y_X12_best lim (f_X12_best_B17 M x0 x2 x3 x4) K 17 [some (.inr (.inr x0)), none, some (.inl x2), some (.inl x3), some (.inl x4)] [] M := by
  unfold f_X12_best_B17
  refine s_run (b := [(.iload 4, 2), (.iconst 4, 1)]) 20 [some (.inr (.inr x0)), none, some (.inl x2), some (.inl x3), some (.inl x4)] [.inl (4 : Int32), .inl x4] (by decide +kernel) rfl ?_
  refine s_ic_ge (tgt := 69) (off := 49) (by decide +kernel) (by decide) (fun h1 => ?_) (fun h1 => ?_)
  · skip
    exact s_lsub (ls' := [none, none, some (.inl x2), none, none]) ⟨rfl, trivial⟩ (kk2_0 x2 M)
  · skip
    refine s_run (b := [(.aload_n 0, 1), (.iload 4, 2)]) 26 [some (.inr (.inr x0)), none, some (.inl x2), some (.inl x3), some (.inl x4)] [.inl x4, .inr (.inr x0)] (by decide +kernel) rfl ?_
    refine s_cV (Z := Y_X12_rules) (c := 12) (vs := [.inl x4]) (st := []) (rO := fun _ => none) (mO := fun z => z) zk_X12_rules zi_X12_rules q1783 rfl ⟨by decide, by decide⟩ ⟨rfl, rfl⟩ rfl rfl (Nat.le_of_ble_eq_true rfl) (by decide +kernel) (fun z hz => c_X12_rules hz) (fun z2 => ?_)
    change Sim l G Y_X12_best lim _ _ 29 [some (.inr (.inr x0)), none, some (.inl x2), some (.inl x3), some (.inl x4)] [] z2
    refine s_run (b := [(.iload_n 2, 1), (.iconst (-1), 1)]) 31 [some (.inr (.inr x0)), none, some (.inl x2), some (.inl x3), some (.inl x4)] [.inl (-1 : Int32), .inl x2] (by decide +kernel) rfl ?_
    refine s_ic_eq (tgt := 50) (off := 19) (by decide +kernel) (by decide) (fun h3 => ?_) (fun h3 => ?_)
    · skip
      exact s_lsub (ls' := [some (.inr (.inr x0)), none, none, none, some (.inl x4)]) ⟨rfl, ⟨rfl, trivial⟩⟩ (J_X12_best_50 z2 x0 x4  K kk1 kk2_0)
    · skip
      refine s_run (b := [(.aload_n 0, 1)]) 35 [some (.inr (.inr x0)), none, some (.inl x2), some (.inl x3), some (.inl x4)] [.inr (.inr x0)] (by decide +kernel) rfl ?_
      refine s_gI fl_12_229 rfl (by decide +kernel) (fun v4 => ?_)
      refine s_run (b := [(.aload_n 0, 1)]) 39 [some (.inr (.inr x0)), none, some (.inl x2), some (.inl x3), some (.inl x4)] [.inr (.inr x0), .inl v4] (by decide +kernel) rfl ?_
      refine s_gI fl_12_232 rfl (by decide +kernel) (fun v5 => ?_)
      refine s_run (b := [(.isub, 1), (.iload_n 3, 1)]) 44 [some (.inr (.inr x0)), none, some (.inl x2), some (.inl x3), some (.inl x4)] [.inl x3, .inl (v4 - v5)] (by decide +kernel) rfl ?_
      refine s_ic_gt (tgt := 50) (off := 6) (by decide +kernel) (by decide) (fun h6 => ?_) (fun h6 => ?_)
      · skip
        exact s_lsub (ls' := [some (.inr (.inr x0)), none, none, none, some (.inl x4)]) ⟨rfl, ⟨rfl, trivial⟩⟩ (J_X12_best_50 z2 x0 x4  K kk1 kk2_0)
      · skip
        refine s_run (b := [(.goto 16, 3), (.iinc 4 1, 3), (.goto (-49), 3)]) 17 [some (.inr (.inr x0)), none, some (.inl x2), some (.inl x3), some (.inl (x4 + (1 : Int32)))] [] (by decide +kernel) rfl ?_
        exact s_lsub (ls' := [some (.inr (.inr x0)), none, some (.inl x2), some (.inl x3), some (.inl (x4 + (1 : Int32)))]) ⟨rfl, ⟨rfl, ⟨rfl, ⟨rfl, trivial⟩⟩⟩⟩ (kk1 x2 x3 (x4 + (1 : Int32)) z2)
set_option maxRecDepth 20000 in
theorem L_X12_best_17 {l : Launch} {G : Gv} {lim : Nat × Nat} (M : Mem) (x0 : Nat) (x2 : Int32) (x3 : Int32) (x4 : Int32) (K : ((Int32 × Mem)) → Option (Option Value × Mem)) (kk2_0 : ∀ r : Int32 × Mem, SimR l G Y_X12_best lim (K r) 69 [none, none, some (.inl r.1), none, none] [] r.2) : Sim l G Y_X12_best lim (f_X12_best_L17 M x0 x2 x3 x4) K 17 [some (.inr (.inr x0)), none, some (.inl x2), some (.inl x3), some (.inl x4)] [] M :=
  s_iter (f := fun s : Int32 × Int32 × Int32 × Mem => f_X12_best_B17 s.2.2.2 x0 s.1 s.2.1 s.2.2.1) (hd := 17) (cl := fun s => [some (.inr (.inr x0)), none, some (.inl s.1), some (.inl s.2.1), some (.inl s.2.2.1)]) (cm := fun s => s.2.2.2) (xp := fun _ => 69) (xl := fun r => [none, none, some (.inl r.1), none, none]) (xm := fun r => r.2) (fun s K h1 h2 => B_X12_best_17 s.2.2.2 x0 s.1 s.2.1 s.2.2.1 K (fun a2 a3 a4 a_ => h1 (a2, a3, a4, a_)) (fun a2 a_ => h2 (a2, a_))) 1048576 (x2, x3, x4, M) K kk2_0
def f_X12_best (M : Mem) (x0 : Nat) (x1 : Int32) : Option (Int32 × Mem) :=
  (ob M 12 x0).bind fun _ => (f_X12_isOffice M x0 x1).bind fun z1 =>
  (if z1.1 = 0 then
    some ((-1 : Int32), z1.2)
  else
    (f_X12_best_L17 z1.2 x0 (-1 : Int32) (0 : Int32) (0 : Int32)).bind fun r3 =>
    some (r3.1, r3.2))
set_option maxRecDepth 20000 in
theorem S_X12_best {l : Launch} {G : Gv} {lim : Nat × Nat} (M : Mem) (x0 : Nat) (x1 : Int32) : Sim l G Y_X12_best lim (f_X12_best M x0 x1) (fun z => some (some (.int z.1), z.2)) 0 [some (.inr (.inr x0)), some (.inl x1), none, none, none] [] M := by
  unfold f_X12_best
  refine s_run (b := [(.aload_n 0, 1), (.iload_n 1, 1)]) 2 [some (.inr (.inr x0)), some (.inl x1), none, none, none] [.inl x1, .inr (.inr x0)] (by decide +kernel) rfl ?_
  refine s_cV (Z := Y_X12_isOffice) (c := 12) (vs := [.inl x1]) (st := []) (rO := fun z => some (.inl z.1)) (mO := fun z => z.2) zk_X12_isOffice zi_X12_isOffice q1550 rfl ⟨by decide, by decide⟩ ⟨rfl, rfl⟩ rfl rfl (Nat.le_of_ble_eq_true rfl) (by decide +kernel) (fun z hz => c_X12_isOffice hz) (fun z1 => ?_)
  change Sim l G Y_X12_best lim _ _ 5 [some (.inr (.inr x0)), some (.inl x1), none, none, none] [.inl z1.1] z1.2
  refine s_if_ne (tgt := 10) (off := 5) (by decide +kernel) (by decide) (fun h2 => ?_) (fun h2 => ?_)
  · skip
    refine s_run (b := [(.iconst (-1), 1)]) 9 [some (.inr (.inr x0)), some (.inl x1), none, none, none] [.inl (-1 : Int32)] (by decide +kernel) rfl ?_
    exact s_iret (by decide +kernel) rfl
  · skip
    refine s_run (b := [(.iconst (-1), 1), (.istore_n 2, 1), (.iconst 0, 1), (.istore_n 3, 1), (.iconst 0, 1), (.istore 4, 2)]) 17 [some (.inr (.inr x0)), some (.inl x1), some (.inl (-1 : Int32)), some (.inl (0 : Int32)), some (.inl (0 : Int32))] [] (by decide +kernel) rfl ?_
    refine s_lsub (ls' := [some (.inr (.inr x0)), none, some (.inl (-1 : Int32)), some (.inl (0 : Int32)), some (.inl (0 : Int32))]) ⟨rfl, ⟨rfl, ⟨rfl, ⟨rfl, trivial⟩⟩⟩⟩ ?_
    refine sim_bind (L_X12_best_17 z1.2 x0 (-1 : Int32) (0 : Int32) (0 : Int32) _ (fun r3 => ?_))
    change Sim l G Y_X12_best lim _ _ 69 [none, none, some (.inl r3.1), none, none] [] r3.2
    refine s_run (b := [(.iload_n 2, 1)]) 70 [none, none, some (.inl r3.1), none, none] [.inl r3.1] (by decide +kernel) rfl ?_
    exact s_iret (by decide +kernel) rfl
set_option maxRecDepth 20000 in
theorem c_X12_best {l : Launch} {G : Gv} {M : Mem} {x0 : Nat} {x1 : Int32} {z : Int32 × Mem} (h : f_X12_best M x0 x1 = some z) : MetS l G Y_X12_best [.inr (.inr x0), .inl x1] M (some (.int z.1)) z.2 :=
  met_of (ls0 := [some (.inr (.inr x0)), some (.inl x1), none, none, none]) (by decide) rfl (lv_in (m := 3) rfl) (sl_le (Nat.le_of_ble_eq_true rfl)) (by rw [h]; rfl) (Or.inl ⟨rfl, rfl⟩) (S_X12_best M x0 x1)
def f_X12_areThere_B4 (M : Mem) (x0 : Nat) (x1 : Int32) (x2 : Int32) : Option ((Int32 × Int32) ⊕ ((Int32))) :=
  (gR M 12 x0 0).bind fun v1 =>
  (gI M 12 x0 35).bind fun v2 =>
  (aI M 0 v1 v2).bind fun v3 =>
  (if v3 ≤ x2 then
    some (.inr x1)
  else
    (if x1 = 0 then
      some (.inl ((0 : Int32), (x2 + (1 : Int32))))
    else
      (gR M 12 x0 0).bind fun v6 =>
      (gI M 12 x0 35).bind fun v7 =>
      (aI M 0 v6 ((v7 + (2 : Int32)) + ((4 : Int32) * x2))).bind fun v8 =>
      (ob M 12 x0).bind fun _ => (f_X12_isDesk M x0 v8).bind fun v9 =>
      (if v9 = 0 then
        some (.inl ((0 : Int32), (x2 + (1 : Int32))))
      else
        (gR M 12 x0 0).bind fun v11 =>
        (gI M 12 x0 35).bind fun v12 =>
        (aI M 0 v11 ((v12 + (3 : Int32)) + ((4 : Int32) * x2))).bind fun v13 =>
        (gI M 12 x0 12).bind fun v14 =>
        (if v14 ≤ v13 then
          some (.inl ((0 : Int32), (x2 + (1 : Int32))))
        else
          some (.inl ((1 : Int32), (x2 + (1 : Int32))))))))
def f_X12_areThere_L4 (M : Mem) (x0 : Nat) (x1 : Int32) (x2 : Int32) : Option ((Int32)) := iter (fun s : Int32 × Int32 => f_X12_areThere_B4 M x0 s.1 s.2) 1048576 (x1, x2)
set_option maxRecDepth 20000 in
theorem B_X12_areThere_4 {l : Launch} {G : Gv} {lim : Nat × Nat} (M : Mem) (x0 : Nat) (x1 : Int32) (x2 : Int32) (K : (Int32 × Int32) ⊕ ((Int32)) → Option (Option Value × Mem)) (kk1 : ∀ (s1 : Int32) (s2 : Int32), SimR l G Y_X12_areThere lim (K (.inl (s1, s2))) 4 [some (.inr (.inr x0)), some (.inl s1), some (.inl s2)] [] M) (kk2_0 : ∀ (s1 : Int32), SimR l G Y_X12_areThere lim (K (.inr s1)) 77 [none, some (.inl s1), none] [] M) : Sim l G Y_X12_areThere lim (f_X12_areThere_B4 M x0 x1 x2) K 4 [some (.inr (.inr x0)), some (.inl x1), some (.inl x2)] [] M := by
  unfold f_X12_areThere_B4
  refine s_run (b := [(.iload_n 2, 1), (.aload_n 0, 1)]) 6 [some (.inr (.inr x0)), some (.inl x1), some (.inl x2)] [.inr (.inr x0), .inl x2] (by decide +kernel) rfl ?_
  refine s_gR fl_12_7 rfl (by decide +kernel) (fun v1 => ?_)
  refine s_run (b := [(.aload_n 0, 1)]) 10 [some (.inr (.inr x0)), some (.inl x1), some (.inl x2)] [.inr (.inr x0), .inr (.inr v1), .inl x2] (by decide +kernel) rfl ?_
  refine s_gI fl_12_333 rfl (by decide +kernel) (fun v2 => ?_)
  refine s_ia (by decide +kernel) (fun v3 => ?_)
  refine s_ic_ge (tgt := 77) (off := 63) (by decide +kernel) (by decide) (fun h4 => ?_) (fun h4 => ?_)
  · skip
    exact s_lsub (ls' := [none, some (.inl x1), none]) ⟨rfl, trivial⟩ (kk2_0 x1)
  · skip
    refine s_run (b := [(.iload_n 1, 1)]) 18 [some (.inr (.inr x0)), some (.inl x1), some (.inl x2)] [.inl x1] (by decide +kernel) rfl ?_
    refine s_if_eq (tgt := 69) (off := 51) (by decide +kernel) (by decide) (fun h5 => ?_) (fun h5 => ?_)
    · skip
      refine s_run (b := [(.iconst 0, 1), (.istore_n 1, 1), (.iinc 2 1, 3), (.goto (-70), 3)]) 4 [some (.inr (.inr x0)), some (.inl (0 : Int32)), some (.inl (x2 + (1 : Int32)))] [] (by decide +kernel) rfl ?_
      exact s_lsub (ls' := [some (.inr (.inr x0)), some (.inl (0 : Int32)), some (.inl (x2 + (1 : Int32)))]) ⟨rfl, ⟨rfl, ⟨rfl, trivial⟩⟩⟩ (kk1 (0 : Int32) (x2 + (1 : Int32)))
    · skip
      refine s_run (b := [(.aload_n 0, 1), (.aload_n 0, 1)]) 23 [some (.inr (.inr x0)), some (.inl x1), some (.inl x2)] [.inr (.inr x0), .inr (.inr x0)] (by decide +kernel) rfl ?_
      refine s_gR fl_12_7 rfl (by decide +kernel) (fun v6 => ?_)
      refine s_run (b := [(.aload_n 0, 1)]) 27 [some (.inr (.inr x0)), some (.inl x1), some (.inl x2)] [.inr (.inr x0), .inr (.inr v6), .inr (.inr x0)] (by decide +kernel) rfl ?_
      refine s_gI fl_12_333 rfl (by decide +kernel) (fun v7 => ?_)
      refine s_run (b := [(.iconst 2, 1), (.iadd, 1), (.iconst 4, 1), (.iload_n 2, 1), (.imul, 1), (.iadd, 1)]) 36 [some (.inr (.inr x0)), some (.inl x1), some (.inl x2)] [.inl ((v7 + (2 : Int32)) + ((4 : Int32) * x2)), .inr (.inr v6), .inr (.inr x0)] (by decide +kernel) rfl ?_
      refine s_ia (by decide +kernel) (fun v8 => ?_)
      refine s_cV (Z := Y_X12_isDesk) (c := 12) (vs := [.inl v8]) (st := []) (rO := fun z => some (.inl z)) (mO := fun _ => M) zk_X12_isDesk zi_X12_isDesk q1554 rfl ⟨by decide, by decide⟩ ⟨rfl, rfl⟩ rfl rfl (Nat.le_of_ble_eq_true rfl) (by decide +kernel) (fun z hz => c_X12_isDesk hz) (fun v9 => ?_)
      change Sim l G Y_X12_areThere lim _ _ 40 [some (.inr (.inr x0)), some (.inl x1), some (.inl x2)] [.inl v9] M
      refine s_if_eq (tgt := 69) (off := 29) (by decide +kernel) (by decide) (fun h10 => ?_) (fun h10 => ?_)
      · skip
        refine s_run (b := [(.iconst 0, 1), (.istore_n 1, 1), (.iinc 2 1, 3), (.goto (-70), 3)]) 4 [some (.inr (.inr x0)), some (.inl (0 : Int32)), some (.inl (x2 + (1 : Int32)))] [] (by decide +kernel) rfl ?_
        exact s_lsub (ls' := [some (.inr (.inr x0)), some (.inl (0 : Int32)), some (.inl (x2 + (1 : Int32)))]) ⟨rfl, ⟨rfl, ⟨rfl, trivial⟩⟩⟩ (kk1 (0 : Int32) (x2 + (1 : Int32)))
      · skip
        refine s_run (b := [(.aload_n 0, 1)]) 44 [some (.inr (.inr x0)), some (.inl x1), some (.inl x2)] [.inr (.inr x0)] (by decide +kernel) rfl ?_
        refine s_gR fl_12_7 rfl (by decide +kernel) (fun v11 => ?_)
        refine s_run (b := [(.aload_n 0, 1)]) 48 [some (.inr (.inr x0)), some (.inl x1), some (.inl x2)] [.inr (.inr x0), .inr (.inr v11)] (by decide +kernel) rfl ?_
        refine s_gI fl_12_333 rfl (by decide +kernel) (fun v12 => ?_)
        refine s_run (b := [(.iconst 3, 1), (.iadd, 1), (.iconst 4, 1), (.iload_n 2, 1), (.imul, 1), (.iadd, 1)]) 57 [some (.inr (.inr x0)), some (.inl x1), some (.inl x2)] [.inl ((v12 + (3 : Int32)) + ((4 : Int32) * x2)), .inr (.inr v11)] (by decide +kernel) rfl ?_
        refine s_ia (by decide +kernel) (fun v13 => ?_)
        refine s_run (b := [(.aload_n 0, 1)]) 59 [some (.inr (.inr x0)), some (.inl x1), some (.inl x2)] [.inr (.inr x0), .inl v13] (by decide +kernel) rfl ?_
        refine s_gI fl_12_162 rfl (by decide +kernel) (fun v14 => ?_)
        refine s_ic_ge (tgt := 69) (off := 7) (by decide +kernel) (by decide) (fun h15 => ?_) (fun h15 => ?_)
        · skip
          refine s_run (b := [(.iconst 0, 1), (.istore_n 1, 1), (.iinc 2 1, 3), (.goto (-70), 3)]) 4 [some (.inr (.inr x0)), some (.inl (0 : Int32)), some (.inl (x2 + (1 : Int32)))] [] (by decide +kernel) rfl ?_
          exact s_lsub (ls' := [some (.inr (.inr x0)), some (.inl (0 : Int32)), some (.inl (x2 + (1 : Int32)))]) ⟨rfl, ⟨rfl, ⟨rfl, trivial⟩⟩⟩ (kk1 (0 : Int32) (x2 + (1 : Int32)))
        · skip
          refine s_run (b := [(.iconst 1, 1), (.goto 4, 3), (.istore_n 1, 1), (.iinc 2 1, 3), (.goto (-70), 3)]) 4 [some (.inr (.inr x0)), some (.inl (1 : Int32)), some (.inl (x2 + (1 : Int32)))] [] (by decide +kernel) rfl ?_
          exact s_lsub (ls' := [some (.inr (.inr x0)), some (.inl (1 : Int32)), some (.inl (x2 + (1 : Int32)))]) ⟨rfl, ⟨rfl, ⟨rfl, trivial⟩⟩⟩ (kk1 (1 : Int32) (x2 + (1 : Int32)))
set_option maxRecDepth 20000 in
theorem L_X12_areThere_4 {l : Launch} {G : Gv} {lim : Nat × Nat} (M : Mem) (x0 : Nat) (x1 : Int32) (x2 : Int32) (K : ((Int32)) → Option (Option Value × Mem)) (kk2_0 : ∀ r : Int32, SimR l G Y_X12_areThere lim (K r) 77 [none, some (.inl r), none] [] M) : Sim l G Y_X12_areThere lim (f_X12_areThere_L4 M x0 x1 x2) K 4 [some (.inr (.inr x0)), some (.inl x1), some (.inl x2)] [] M :=
  s_iter (f := fun s : Int32 × Int32 => f_X12_areThere_B4 M x0 s.1 s.2) (hd := 4) (cl := fun s => [some (.inr (.inr x0)), some (.inl s.1), some (.inl s.2)]) (cm := fun s => M) (xp := fun _ => 77) (xl := fun r => [none, some (.inl r), none]) (xm := fun r => M) (fun s K h1 h2 => B_X12_areThere_4 M x0 s.1 s.2 K (fun a1 a2 => h1 (a1, a2)) (fun a1 => h2 a1)) 1048576 (x1, x2) K kk2_0
def f_X12_areThere (M : Mem) (x0 : Nat) : Option (Int32) :=
  (f_X12_areThere_L4 M x0 (1 : Int32) (0 : Int32)).bind fun r1 =>
  (zr r1).bind fun w2 => some w2
set_option maxRecDepth 20000 in
theorem S_X12_areThere {l : Launch} {G : Gv} {lim : Nat × Nat} (M : Mem) (x0 : Nat) : Sim l G Y_X12_areThere lim (f_X12_areThere M x0) (fun z => some (some (.int z), M)) 0 [some (.inr (.inr x0)), none, none] [] M := by
  unfold f_X12_areThere
  refine s_run (b := [(.iconst 1, 1), (.istore_n 1, 1), (.iconst 0, 1), (.istore_n 2, 1)]) 4 [some (.inr (.inr x0)), some (.inl (1 : Int32)), some (.inl (0 : Int32))] [] (by decide +kernel) rfl ?_
  refine s_lsub (ls' := [some (.inr (.inr x0)), some (.inl (1 : Int32)), some (.inl (0 : Int32))]) ⟨rfl, ⟨rfl, ⟨rfl, trivial⟩⟩⟩ ?_
  refine sim_bind (L_X12_areThere_4 M x0 (1 : Int32) (0 : Int32) _ (fun r1 => ?_))
  change Sim l G Y_X12_areThere lim _ _ 77 [none, some (.inl r1), none] [] M
  refine s_run (b := [(.iload_n 1, 1)]) 78 [none, some (.inl r1), none] [.inl r1] (by decide +kernel) rfl ?_
  exact s_zr (fun h3 => s_bret h3 (by decide +kernel) rfl)
set_option maxRecDepth 20000 in
theorem c_X12_areThere {l : Launch} {G : Gv} {M : Mem} {x0 : Nat} {z : Int32} (h : f_X12_areThere M x0 = some z) : MetS l G Y_X12_areThere [.inr (.inr x0)] M (some (.int z)) M :=
  met_of (ls0 := [some (.inr (.inr x0)), none, none]) (by decide) rfl (lv_in (m := 2) rfl) (sl_le (Nat.le_of_ble_eq_true rfl)) (by rw [h]; rfl) (Or.inl ⟨rfl, rfl⟩) (S_X12_areThere M x0)
def f_X12_bitsOf_B4 (M : Mem) (x0 : Int32) (x1 : Int32) (x2 : Int32) : Option ((Int32 × Int32) ⊕ ((Int32))) :=
  (if (8 : Int32) ≤ x2 then
    some (.inr x1)
  else
    some (.inl ((x1 + ((x0 >>> (x2 &&& 31)) &&& (1 : Int32))), (x2 + (1 : Int32)))))
def f_X12_bitsOf_L4 (M : Mem) (x0 : Int32) (x1 : Int32) (x2 : Int32) : Option ((Int32)) := iter (fun s : Int32 × Int32 => f_X12_bitsOf_B4 M x0 s.1 s.2) 1048576 (x1, x2)
set_option maxRecDepth 20000 in
theorem B_X12_bitsOf_4 {l : Launch} {G : Gv} {lim : Nat × Nat} (M : Mem) (x0 : Int32) (x1 : Int32) (x2 : Int32) (K : (Int32 × Int32) ⊕ ((Int32)) → Option (Option Value × Mem)) (kk1 : ∀ (s1 : Int32) (s2 : Int32), SimR l G Y_X12_bitsOf lim (K (.inl (s1, s2))) 4 [some (.inl x0), some (.inl s1), some (.inl s2)] [] M) (kk2_0 : ∀ (s1 : Int32), SimR l G Y_X12_bitsOf lim (K (.inr s1)) 24 [none, some (.inl s1), none] [] M) : Sim l G Y_X12_bitsOf lim (f_X12_bitsOf_B4 M x0 x1 x2) K 4 [some (.inl x0), some (.inl x1), some (.inl x2)] [] M := by
  unfold f_X12_bitsOf_B4
  refine s_run (b := [(.iload_n 2, 1), (.bipush 8, 2)]) 7 [some (.inl x0), some (.inl x1), some (.inl x2)] [.inl (8 : Int32), .inl x2] (by decide +kernel) rfl ?_
  refine s_ic_ge (tgt := 24) (off := 17) (by decide +kernel) (by decide) (fun h1 => ?_) (fun h1 => ?_)
  · skip
    exact s_lsub (ls' := [none, some (.inl x1), none]) ⟨rfl, trivial⟩ (kk2_0 x1)
  · skip
    refine s_run (b := [(.iload_n 1, 1), (.iload_n 0, 1), (.iload_n 2, 1), (.ishr, 1), (.iconst 1, 1), (.iand, 1), (.iadd, 1), (.istore_n 1, 1), (.iinc 2 1, 3), (.goto (-17), 3)]) 4 [some (.inl x0), some (.inl (x1 + ((x0 >>> (x2 &&& 31)) &&& (1 : Int32)))), some (.inl (x2 + (1 : Int32)))] [] (by decide +kernel) rfl ?_
    exact s_lsub (ls' := [some (.inl x0), some (.inl (x1 + ((x0 >>> (x2 &&& 31)) &&& (1 : Int32)))), some (.inl (x2 + (1 : Int32)))]) ⟨rfl, ⟨rfl, ⟨rfl, trivial⟩⟩⟩ (kk1 (x1 + ((x0 >>> (x2 &&& 31)) &&& (1 : Int32))) (x2 + (1 : Int32)))
set_option maxRecDepth 20000 in
theorem L_X12_bitsOf_4 {l : Launch} {G : Gv} {lim : Nat × Nat} (M : Mem) (x0 : Int32) (x1 : Int32) (x2 : Int32) (K : ((Int32)) → Option (Option Value × Mem)) (kk2_0 : ∀ r : Int32, SimR l G Y_X12_bitsOf lim (K r) 24 [none, some (.inl r), none] [] M) : Sim l G Y_X12_bitsOf lim (f_X12_bitsOf_L4 M x0 x1 x2) K 4 [some (.inl x0), some (.inl x1), some (.inl x2)] [] M :=
  s_iter (f := fun s : Int32 × Int32 => f_X12_bitsOf_B4 M x0 s.1 s.2) (hd := 4) (cl := fun s => [some (.inl x0), some (.inl s.1), some (.inl s.2)]) (cm := fun s => M) (xp := fun _ => 24) (xl := fun r => [none, some (.inl r), none]) (xm := fun r => M) (fun s K h1 h2 => B_X12_bitsOf_4 M x0 s.1 s.2 K (fun a1 a2 => h1 (a1, a2)) (fun a1 => h2 a1)) 1048576 (x1, x2) K kk2_0
def f_X12_bitsOf (M : Mem) (x0 : Int32) : Option (Int32) :=
  (f_X12_bitsOf_L4 M x0 (0 : Int32) (0 : Int32)).bind fun r1 =>
  some r1
set_option maxRecDepth 20000 in
theorem S_X12_bitsOf {l : Launch} {G : Gv} {lim : Nat × Nat} (M : Mem) (x0 : Int32) : Sim l G Y_X12_bitsOf lim (f_X12_bitsOf M x0) (fun z => some (some (.int z), M)) 0 [some (.inl x0), none, none] [] M := by
  unfold f_X12_bitsOf
  refine s_run (b := [(.iconst 0, 1), (.istore_n 1, 1), (.iconst 0, 1), (.istore_n 2, 1)]) 4 [some (.inl x0), some (.inl (0 : Int32)), some (.inl (0 : Int32))] [] (by decide +kernel) rfl ?_
  refine s_lsub (ls' := [some (.inl x0), some (.inl (0 : Int32)), some (.inl (0 : Int32))]) ⟨rfl, ⟨rfl, ⟨rfl, trivial⟩⟩⟩ ?_
  refine sim_bind (L_X12_bitsOf_4 M x0 (0 : Int32) (0 : Int32) _ (fun r1 => ?_))
  change Sim l G Y_X12_bitsOf lim _ _ 24 [none, some (.inl r1), none] [] M
  refine s_run (b := [(.iload_n 1, 1)]) 25 [none, some (.inl r1), none] [.inl r1] (by decide +kernel) rfl ?_
  exact s_iret (by decide +kernel) rfl
set_option maxRecDepth 20000 in
theorem c_X12_bitsOf {l : Launch} {G : Gv} {M : Mem} {x0 : Int32} {z : Int32} (h : f_X12_bitsOf M x0 = some z) : MetS l G Y_X12_bitsOf [.inl x0] M (some (.int z)) M :=
  met_of (ls0 := [some (.inl x0), none, none]) (by decide) rfl (lv_in (m := 2) rfl) (sl_le (Nat.le_of_ble_eq_true rfl)) (by rw [h]; rfl) (Or.inl ⟨rfl, rfl⟩) (S_X12_bitsOf M x0)
def f_X12_isLog (M : Mem) (x0 : Nat) (x1 : Int32) : Option (Int32 × Mem) :=
  (ob M 12 x0).bind fun _ => (f_X12_isOf M x0 (2 : Int32) x1).bind fun v1 =>
  (if v1 = 0 then
    some ((0 : Int32), M)
  else
    (f_X12_placeOf M (2 : Int32) x1).bind fun v3 =>
    (pI M 12 x0 35 v3).bind fun M4 =>
    some ((1 : Int32), M4))
set_option maxRecDepth 20000 in
theorem S_X12_isLog {l : Launch} {G : Gv} {lim : Nat × Nat} (M : Mem) (x0 : Nat) (x1 : Int32) : Sim l G Y_X12_isLog lim (f_X12_isLog M x0 x1) (fun z => some (some (.int z.1), z.2)) 0 [some (.inr (.inr x0)), some (.inl x1)] [] M := by
  unfold f_X12_isLog
  refine s_run (b := [(.aload_n 0, 1), (.iconst 2, 1), (.iload_n 1, 1)]) 3 [some (.inr (.inr x0)), some (.inl x1)] [.inl x1, .inl (2 : Int32), .inr (.inr x0)] (by decide +kernel) rfl ?_
  refine s_cV (Z := Y_X12_isOf) (c := 12) (vs := [.inl (2 : Int32), .inl x1]) (st := []) (rO := fun z => some (.inl z)) (mO := fun _ => M) zk_X12_isOf zi_X12_isOf q1466 rfl ⟨by decide, by decide⟩ ⟨rfl, rfl⟩ rfl rfl (Nat.le_of_ble_eq_true rfl) (by decide +kernel) (fun z hz => c_X12_isOf hz) (fun v1 => ?_)
  change Sim l G Y_X12_isLog lim _ _ 6 [some (.inr (.inr x0)), some (.inl x1)] [.inl v1] M
  refine s_if_ne (tgt := 11) (off := 5) (by decide +kernel) (by decide) (fun h2 => ?_) (fun h2 => ?_)
  · skip
    refine s_run (b := [(.iconst 0, 1)]) 10 [some (.inr (.inr x0)), some (.inl x1)] [.inl (0 : Int32)] (by decide +kernel) rfl ?_
    exact s_bret (Or.inl rfl) (by decide +kernel) rfl
  · skip
    refine s_run (b := [(.aload_n 0, 1), (.iconst 2, 1), (.iload_n 1, 1)]) 14 [some (.inr (.inr x0)), some (.inl x1)] [.inl x1, .inl (2 : Int32), .inr (.inr x0)] (by decide +kernel) rfl ?_
    refine s_cS (Z := Y_X12_placeOf) (vs := [.inl (2 : Int32), .inl x1]) (st := [.inr (.inr x0)]) (rO := fun z => some (.inl z)) (mO := fun _ => M) zk_X12_placeOf q1540 q1539 ⟨by decide, by decide⟩ ⟨rfl, rfl⟩ rfl rfl (Nat.le_of_ble_eq_true rfl) (by decide +kernel) (fun z hz => c_X12_placeOf hz) (fun v3 => ?_)
    change Sim l G Y_X12_isLog lim _ _ 17 [some (.inr (.inr x0)), some (.inl x1)] [.inl v3, .inr (.inr x0)] M
    refine s_pI fl_12_333 (Or.inl rfl) rfl (by decide +kernel) (fun M4 => ?_)
    refine s_run (b := [(.iconst 1, 1)]) 21 [some (.inr (.inr x0)), some (.inl x1)] [.inl (1 : Int32)] (by decide +kernel) rfl ?_
    exact s_bret (Or.inr rfl) (by decide +kernel) rfl
set_option maxRecDepth 20000 in
theorem c_X12_isLog {l : Launch} {G : Gv} {M : Mem} {x0 : Nat} {x1 : Int32} {z : Int32 × Mem} (h : f_X12_isLog M x0 x1 = some z) : MetS l G Y_X12_isLog [.inr (.inr x0), .inl x1] M (some (.int z.1)) z.2 :=
  met_of (ls0 := [some (.inr (.inr x0)), some (.inl x1)]) (by decide) rfl (lv_in (m := 0) rfl) (sl_le (Nat.le_of_ble_eq_true rfl)) (by rw [h]; rfl) (Or.inl ⟨rfl, rfl⟩) (S_X12_isLog M x0 x1)
def f_X12_triesDeaf_J35 (M : Mem) (x0 : Nat) (x1 : Int32) (x2 : Int32) (x3 : Int32) (y0 : Nat) (y1 : Int32) (y2 : Int32) : Option ((Int32 × Mem) ⊕ ((Mem))) :=
  (sI M 0 y0 y1 y2).bind fun M1 =>
  some (.inl ((x3 + (1 : Int32)), M1))
set_option maxRecDepth 20000 in
theorem J_X12_triesDeaf_35 {l : Launch} {G : Gv} {lim : Nat × Nat} (M : Mem) (x0 : Nat) (x1 : Int32) (x2 : Int32) (x3 : Int32) (y0 : Nat) (y1 : Int32) (y2 : Int32) (K : (Int32 × Mem) ⊕ ((Mem)) → Option (Option Value × Mem)) (kk1 : ∀ (s3 : Int32) (s_ : Mem), SimR l G Y_X12_triesDeaf lim (K (.inl (s3, s_))) 2 [some (.inr (.inr x0)), some (.inl x1), some (.inl x2), some (.inl s3)] [] s_) (kk2_0 : ∀ (s_ : Mem), SimR l G Y_X12_triesDeaf lim (K (.inr s_)) 42 [some (.inr (.inr x0)), none, some (.inl x2), none] [] s_) : Sim l G Y_X12_triesDeaf lim (f_X12_triesDeaf_J35 M x0 x1 x2 x3 y0 y1 y2) K 35 [some (.inr (.inr x0)), some (.inl x1), some (.inl x2), some (.inl x3)] [.inl y2, .inl y1, .inr (.inr y0)] M := by
  unfold f_X12_triesDeaf_J35
  refine s_is (by decide +kernel) (fun M1 => ?_)
  refine s_run (b := [(.iinc 3 1, 3), (.goto (-37), 3)]) 2 [some (.inr (.inr x0)), some (.inl x1), some (.inl x2), some (.inl (x3 + (1 : Int32)))] [] (by decide +kernel) rfl ?_
  exact s_lsub (ls' := [some (.inr (.inr x0)), some (.inl x1), some (.inl x2), some (.inl (x3 + (1 : Int32)))]) ⟨rfl, ⟨rfl, ⟨rfl, ⟨rfl, trivial⟩⟩⟩⟩ (kk1 (x3 + (1 : Int32)) M1)
def f_X12_triesDeaf_B2 (M : Mem) (x0 : Nat) (x1 : Int32) (x2 : Int32) (x3 : Int32) : Option ((Int32 × Mem) ⊕ ((Mem))) :=
  (gI M 12 x0 12).bind fun v1 =>
  (if v1 ≤ x3 then
    some (.inr M)
  else
    (gR M 12 x0 14).bind fun v3 =>
    (sI M 0 v3 x3 (0 : Int32)).bind fun M4 =>
    (gR M4 12 x0 15).bind fun v5 =>
    (f_X12_holds M4 x1 x3).bind fun v6 =>
    (if v6 = 0 then
      f_X12_triesDeaf_J35 M4 x0 x1 x2 x3 v5 x3 (0 : Int32)
    else
      f_X12_triesDeaf_J35 M4 x0 x1 x2 x3 v5 x3 (2 : Int32)))
def f_X12_triesDeaf_L2 (M : Mem) (x0 : Nat) (x1 : Int32) (x2 : Int32) (x3 : Int32) : Option ((Mem)) := iter (fun s : Int32 × Mem => f_X12_triesDeaf_B2 s.2 x0 x1 x2 s.1) 1048576 (x3, M)
set_option maxRecDepth 20000 in
theorem B_X12_triesDeaf_2 {l : Launch} {G : Gv} {lim : Nat × Nat} (M : Mem) (x0 : Nat) (x1 : Int32) (x2 : Int32) (x3 : Int32) (K : (Int32 × Mem) ⊕ ((Mem)) → Option (Option Value × Mem)) (kk1 : ∀ (s3 : Int32) (s_ : Mem), SimR l G Y_X12_triesDeaf lim (K (.inl (s3, s_))) 2 [some (.inr (.inr x0)), some (.inl x1), some (.inl x2), some (.inl s3)] [] s_) (kk2_0 : ∀ (s_ : Mem), SimR l G Y_X12_triesDeaf lim (K (.inr s_)) 42 [some (.inr (.inr x0)), none, some (.inl x2), none] [] s_) : Sim l G Y_X12_triesDeaf lim (f_X12_triesDeaf_B2 M x0 x1 x2 x3) K 2 [some (.inr (.inr x0)), some (.inl x1), some (.inl x2), some (.inl x3)] [] M := by
  unfold f_X12_triesDeaf_B2
  refine s_run (b := [(.iload_n 3, 1), (.aload_n 0, 1)]) 4 [some (.inr (.inr x0)), some (.inl x1), some (.inl x2), some (.inl x3)] [.inr (.inr x0), .inl x3] (by decide +kernel) rfl ?_
  refine s_gI fl_12_162 rfl (by decide +kernel) (fun v1 => ?_)
  refine s_ic_ge (tgt := 42) (off := 35) (by decide +kernel) (by decide) (fun h2 => ?_) (fun h2 => ?_)
  · skip
    exact s_lsub (ls' := [some (.inr (.inr x0)), none, some (.inl x2), none]) ⟨rfl, ⟨rfl, trivial⟩⟩ (kk2_0 M)
  · skip
    refine s_run (b := [(.aload_n 0, 1)]) 11 [some (.inr (.inr x0)), some (.inl x1), some (.inl x2), some (.inl x3)] [.inr (.inr x0)] (by decide +kernel) rfl ?_
    refine s_gR fl_12_20 rfl (by decide +kernel) (fun v3 => ?_)
    refine s_run (b := [(.iload_n 3, 1), (.iconst 0, 1)]) 16 [some (.inr (.inr x0)), some (.inl x1), some (.inl x2), some (.inl x3)] [.inl (0 : Int32), .inl x3, .inr (.inr v3)] (by decide +kernel) rfl ?_
    refine s_is (by decide +kernel) (fun M4 => ?_)
    refine s_run (b := [(.aload_n 0, 1)]) 18 [some (.inr (.inr x0)), some (.inl x1), some (.inl x2), some (.inl x3)] [.inr (.inr x0)] (by decide +kernel) rfl ?_
    refine s_gR fl_12_23 rfl (by decide +kernel) (fun v5 => ?_)
    refine s_run (b := [(.iload_n 3, 1), (.iload_n 1, 1), (.iload_n 3, 1)]) 24 [some (.inr (.inr x0)), some (.inl x1), some (.inl x2), some (.inl x3)] [.inl x3, .inl x1, .inl x3, .inr (.inr v5)] (by decide +kernel) rfl ?_
    refine s_cS (Z := Y_X12_holds) (vs := [.inl x1, .inl x3]) (st := [.inl x3, .inr (.inr v5)]) (rO := fun z => some (.inl z)) (mO := fun _ => M4) zk_X12_holds q1599 q1598 ⟨by decide, by decide⟩ ⟨rfl, rfl⟩ rfl rfl (Nat.le_of_ble_eq_true rfl) (by decide +kernel) (fun z hz => c_X12_holds hz) (fun v6 => ?_)
    change Sim l G Y_X12_triesDeaf lim _ _ 27 [some (.inr (.inr x0)), some (.inl x1), some (.inl x2), some (.inl x3)] [.inl v6, .inl x3, .inr (.inr v5)] M4
    refine s_if_eq (tgt := 34) (off := 7) (by decide +kernel) (by decide) (fun h7 => ?_) (fun h7 => ?_)
    · skip
      refine s_run (b := [(.iconst 0, 1)]) 35 [some (.inr (.inr x0)), some (.inl x1), some (.inl x2), some (.inl x3)] [.inl (0 : Int32), .inl x3, .inr (.inr v5)] (by decide +kernel) rfl ?_
      exact s_lsub (ls' := [some (.inr (.inr x0)), some (.inl x1), some (.inl x2), some (.inl x3)]) ⟨rfl, ⟨rfl, ⟨rfl, ⟨rfl, trivial⟩⟩⟩⟩ (J_X12_triesDeaf_35 M4 x0 x1 x2 x3 v5 x3 (0 : Int32) K kk1 kk2_0)
    · skip
      refine s_run (b := [(.iconst 2, 1), (.goto 4, 3)]) 35 [some (.inr (.inr x0)), some (.inl x1), some (.inl x2), some (.inl x3)] [.inl (2 : Int32), .inl x3, .inr (.inr v5)] (by decide +kernel) rfl ?_
      exact s_lsub (ls' := [some (.inr (.inr x0)), some (.inl x1), some (.inl x2), some (.inl x3)]) ⟨rfl, ⟨rfl, ⟨rfl, ⟨rfl, trivial⟩⟩⟩⟩ (J_X12_triesDeaf_35 M4 x0 x1 x2 x3 v5 x3 (2 : Int32) K kk1 kk2_0)
set_option maxRecDepth 20000 in
theorem L_X12_triesDeaf_2 {l : Launch} {G : Gv} {lim : Nat × Nat} (M : Mem) (x0 : Nat) (x1 : Int32) (x2 : Int32) (x3 : Int32) (K : ((Mem)) → Option (Option Value × Mem)) (kk2_0 : ∀ r : Mem, SimR l G Y_X12_triesDeaf lim (K r) 42 [some (.inr (.inr x0)), none, some (.inl x2), none] [] r) : Sim l G Y_X12_triesDeaf lim (f_X12_triesDeaf_L2 M x0 x1 x2 x3) K 2 [some (.inr (.inr x0)), some (.inl x1), some (.inl x2), some (.inl x3)] [] M :=
  s_iter (f := fun s : Int32 × Mem => f_X12_triesDeaf_B2 s.2 x0 x1 x2 s.1) (hd := 2) (cl := fun s => [some (.inr (.inr x0)), some (.inl x1), some (.inl x2), some (.inl s.1)]) (cm := fun s => s.2) (xp := fun _ => 42) (xl := fun r => [some (.inr (.inr x0)), none, some (.inl x2), none]) (xm := fun r => r) (fun s K h1 h2 => B_X12_triesDeaf_2 s.2 x0 x1 x2 s.1 K (fun a3 a_ => h1 (a3, a_)) (fun a_ => h2 a_)) 1048576 (x3, M) K kk2_0
def f_X12_triesDeaf (M : Mem) (x0 : Nat) (x1 : Int32) (x2 : Int32) : Option (Mem) :=
  (f_X12_triesDeaf_L2 M x0 x1 x2 (0 : Int32)).bind fun r1 =>
  (gI r1 12 x0 12).bind fun v2 =>
  (ob r1 12 x0).bind fun _ => (f_X12_rings r1 x0 x2 ((((1 : Int32) <<< (v2 &&& 31)) - (1 : Int32)) &&& (((1 : Int32) <<< (x2 &&& 31)) ^^^ (-1 : Int32)))).bind fun z3 =>
  some z3
set_option maxRecDepth 20000 in
theorem S_X12_triesDeaf {l : Launch} {G : Gv} {lim : Nat × Nat} (M : Mem) (x0 : Nat) (x1 : Int32) (x2 : Int32) : Sim l G Y_X12_triesDeaf lim (f_X12_triesDeaf M x0 x1 x2) (fun z => some (none, z)) 0 [some (.inr (.inr x0)), some (.inl x1), some (.inl x2), none] [] M := by
  unfold f_X12_triesDeaf
  refine s_run (b := [(.iconst 0, 1), (.istore_n 3, 1)]) 2 [some (.inr (.inr x0)), some (.inl x1), some (.inl x2), some (.inl (0 : Int32))] [] (by decide +kernel) rfl ?_
  refine s_lsub (ls' := [some (.inr (.inr x0)), some (.inl x1), some (.inl x2), some (.inl (0 : Int32))]) ⟨rfl, ⟨rfl, ⟨rfl, ⟨rfl, trivial⟩⟩⟩⟩ ?_
  refine sim_bind (L_X12_triesDeaf_2 M x0 x1 x2 (0 : Int32) _ (fun r1 => ?_))
  change Sim l G Y_X12_triesDeaf lim _ _ 42 [some (.inr (.inr x0)), none, some (.inl x2), none] [] r1
  refine s_run (b := [(.aload_n 0, 1), (.iload_n 2, 1), (.iconst 1, 1), (.aload_n 0, 1)]) 46 [some (.inr (.inr x0)), none, some (.inl x2), none] [.inr (.inr x0), .inl (1 : Int32), .inl x2, .inr (.inr x0)] (by decide +kernel) rfl ?_
  refine s_gI fl_12_162 rfl (by decide +kernel) (fun v2 => ?_)
  refine s_run (b := [(.ishl, 1), (.iconst 1, 1), (.isub, 1), (.iconst 1, 1), (.iload_n 2, 1), (.ishl, 1), (.iconst (-1), 1), (.ixor, 1), (.iand, 1)]) 58 [some (.inr (.inr x0)), none, some (.inl x2), none] [.inl ((((1 : Int32) <<< (v2 &&& 31)) - (1 : Int32)) &&& (((1 : Int32) <<< (x2 &&& 31)) ^^^ (-1 : Int32))), .inl x2, .inr (.inr x0)] (by decide +kernel) rfl ?_
  refine s_cV (Z := Y_X12_rings) (c := 12) (vs := [.inl x2, .inl ((((1 : Int32) <<< (v2 &&& 31)) - (1 : Int32)) &&& (((1 : Int32) <<< (x2 &&& 31)) ^^^ (-1 : Int32)))]) (st := []) (rO := fun _ => none) (mO := fun z => z) zk_X12_rings zi_X12_rings q1605 rfl ⟨by decide, by decide⟩ ⟨rfl, rfl⟩ rfl rfl (Nat.le_of_ble_eq_true rfl) (by decide +kernel) (fun z hz => c_X12_rings hz) (fun z3 => ?_)
  change Sim l G Y_X12_triesDeaf lim _ _ 61 [some (.inr (.inr x0)), none, some (.inl x2), none] [] z3
  exact s_vret (by decide +kernel) rfl
set_option maxRecDepth 20000 in
theorem c_X12_triesDeaf {l : Launch} {G : Gv} {M : Mem} {x0 : Nat} {x1 : Int32} {x2 : Int32} {z : Mem} (h : f_X12_triesDeaf M x0 x1 x2 = some z) : MetS l G Y_X12_triesDeaf [.inr (.inr x0), .inl x1, .inl x2] M none z :=
  met_of (ls0 := [some (.inr (.inr x0)), some (.inl x1), some (.inl x2), none]) (by decide) rfl (lv_in (m := 1) rfl) (sl_le (Nat.le_of_ble_eq_true rfl)) (by rw [h]; rfl) (Or.inl ⟨rfl, rfl⟩) (S_X12_triesDeaf M x0 x1 x2)
def f_X12_isSo_B4 (M : Mem) (x0 : Nat) (x1 : Int32) (x2 : Int32) (x3 : Int32) : Option ((Int32 × Int32 × Mem) ⊕ ((Int32 × Mem))) :=
  (gR M 12 x0 0).bind fun v1 =>
  (gI M 12 x0 35).bind fun v2 =>
  (aI M 0 v1 v2).bind fun v3 =>
  (if v3 ≤ x3 then
    some (.inr (x2, M))
  else
    (if x2 = 0 then
      some (.inr (x2, M))
    else
      (gI M 12 x0 35).bind fun v6 =>
      (gR M 12 x0 0).bind fun v7 =>
      (aI M 0 v7 (((v6 + (1 : Int32)) + ((4 : Int32) * x3)) + (1 : Int32))).bind fun v8 =>
      (ob M 12 x0).bind fun _ => (f_X12_triesDeaf M x0 x1 v8).bind fun z9 =>
      (gR z9 12 x0 0).bind fun v10 =>
      (aI z9 0 v10 ((v6 + (1 : Int32)) + ((4 : Int32) * x3))).bind fun v11 =>
      (if v11 = (1 : Int32) then
        (gI z9 12 x0 16).bind fun v13 =>
        (gR z9 12 x0 0).bind fun v14 =>
        (aI z9 0 v14 (((v6 + (1 : Int32)) + ((4 : Int32) * x3)) + (2 : Int32))).bind fun v15 =>
        (if v13 = v15 then
          (gI z9 12 x0 17).bind fun v17 =>
          (gR z9 12 x0 0).bind fun v18 =>
          (aI z9 0 v18 (((v6 + (1 : Int32)) + ((4 : Int32) * x3)) + (3 : Int32))).bind fun v19 =>
          (if v17 = v19 then
            some (.inl ((1 : Int32), (x3 + (1 : Int32)), z9))
          else
            some (.inl ((0 : Int32), (x3 + (1 : Int32)), z9)))
        else
          some (.inl ((0 : Int32), (x3 + (1 : Int32)), z9)))
      else
        (gI z9 12 x0 16).bind fun v21 =>
        (if v21 = (-1 : Int32) then
          some (.inl ((1 : Int32), (x3 + (1 : Int32)), z9))
        else
          some (.inl ((0 : Int32), (x3 + (1 : Int32)), z9))))))
def f_X12_isSo_L4 (M : Mem) (x0 : Nat) (x1 : Int32) (x2 : Int32) (x3 : Int32) : Option ((Int32 × Mem)) := iter (fun s : Int32 × Int32 × Mem => f_X12_isSo_B4 s.2.2 x0 x1 s.1 s.2.1) 1048576 (x2, x3, M)
set_option maxRecDepth 20000 in
theorem B_X12_isSo_4 {l : Launch} {G : Gv} {lim : Nat × Nat} (M : Mem) (x0 : Nat) (x1 : Int32) (x2 : Int32) (x3 : Int32) (K : (Int32 × Int32 × Mem) ⊕ ((Int32 × Mem)) → Option (Option Value × Mem)) (kk1 : ∀ (s2 : Int32) (s3 : Int32) (s_ : Mem), SimR l G Y_X12_isSo lim (K (.inl (s2, s3, s_))) 4 [some (.inr (.inr x0)), some (.inl x1), some (.inl s2), some (.inl s3), none] [] s_) (kk2_0 : ∀ (s2 : Int32) (s_ : Mem), SimR l G Y_X12_isSo lim (K (.inr (s2, s_))) 118 [none, none, some (.inl s2), none, none] [] s_) : Sim l G Y_X12_isSo lim (f_X12_isSo_B4 M x0 x1 x2 x3) K 4 [some (.inr (.inr x0)), some (.inl x1), some (.inl x2), some (.inl x3), none] [] M := by
  unfold f_X12_isSo_B4
  refine s_run (b := [(.iload_n 3, 1), (.aload_n 0, 1)]) 6 [some (.inr (.inr x0)), some (.inl x1), some (.inl x2), some (.inl x3), none] [.inr (.inr x0), .inl x3] (by decide +kernel) rfl ?_
  refine s_gR fl_12_7 rfl (by decide +kernel) (fun v1 => ?_)
  refine s_run (b := [(.aload_n 0, 1)]) 10 [some (.inr (.inr x0)), some (.inl x1), some (.inl x2), some (.inl x3), none] [.inr (.inr x0), .inr (.inr v1), .inl x3] (by decide +kernel) rfl ?_
  refine s_gI fl_12_333 rfl (by decide +kernel) (fun v2 => ?_)
  refine s_ia (by decide +kernel) (fun v3 => ?_)
  refine s_ic_ge (tgt := 118) (off := 104) (by decide +kernel) (by decide) (fun h4 => ?_) (fun h4 => ?_)
  · skip
    exact s_lsub (ls' := [none, none, some (.inl x2), none, none]) ⟨rfl, trivial⟩ (kk2_0 x2 M)
  · skip
    refine s_run (b := [(.iload_n 2, 1)]) 18 [some (.inr (.inr x0)), some (.inl x1), some (.inl x2), some (.inl x3), none] [.inl x2] (by decide +kernel) rfl ?_
    refine s_if_eq (tgt := 118) (off := 100) (by decide +kernel) (by decide) (fun h5 => ?_) (fun h5 => ?_)
    · skip
      exact s_lsub (ls' := [none, none, some (.inl x2), none, none]) ⟨rfl, trivial⟩ (kk2_0 x2 M)
    · skip
      refine s_run (b := [(.aload_n 0, 1)]) 22 [some (.inr (.inr x0)), some (.inl x1), some (.inl x2), some (.inl x3), none] [.inr (.inr x0)] (by decide +kernel) rfl ?_
      refine s_gI fl_12_333 rfl (by decide +kernel) (fun v6 => ?_)
      refine s_run (b := [(.iconst 1, 1), (.iadd, 1), (.iconst 4, 1), (.iload_n 3, 1), (.imul, 1), (.iadd, 1), (.istore 4, 2), (.aload_n 0, 1), (.iload_n 1, 1), (.aload_n 0, 1)]) 36 [some (.inr (.inr x0)), some (.inl x1), some (.inl x2), some (.inl x3), some (.inl ((v6 + (1 : Int32)) + ((4 : Int32) * x3)))] [.inr (.inr x0), .inl x1, .inr (.inr x0)] (by decide +kernel) rfl ?_
      refine s_gR fl_12_7 rfl (by decide +kernel) (fun v7 => ?_)
      refine s_run (b := [(.iload 4, 2), (.iconst 1, 1), (.iadd, 1)]) 43 [some (.inr (.inr x0)), some (.inl x1), some (.inl x2), some (.inl x3), some (.inl ((v6 + (1 : Int32)) + ((4 : Int32) * x3)))] [.inl (((v6 + (1 : Int32)) + ((4 : Int32) * x3)) + (1 : Int32)), .inr (.inr v7), .inl x1, .inr (.inr x0)] (by decide +kernel) rfl ?_
      refine s_ia (by decide +kernel) (fun v8 => ?_)
      refine s_cV (Z := Y_X12_triesDeaf) (c := 12) (vs := [.inl x1, .inl v8]) (st := []) (rO := fun _ => none) (mO := fun z => z) zk_X12_triesDeaf zi_X12_triesDeaf q1755 rfl ⟨by decide, by decide⟩ ⟨rfl, rfl⟩ rfl rfl (Nat.le_of_ble_eq_true rfl) (by decide +kernel) (fun z hz => c_X12_triesDeaf hz) (fun z9 => ?_)
      change Sim l G Y_X12_isSo lim _ _ 47 [some (.inr (.inr x0)), some (.inl x1), some (.inl x2), some (.inl x3), some (.inl ((v6 + (1 : Int32)) + ((4 : Int32) * x3)))] [] z9
      refine s_run (b := [(.aload_n 0, 1)]) 48 [some (.inr (.inr x0)), some (.inl x1), some (.inl x2), some (.inl x3), some (.inl ((v6 + (1 : Int32)) + ((4 : Int32) * x3)))] [.inr (.inr x0)] (by decide +kernel) rfl ?_
      refine s_gR fl_12_7 rfl (by decide +kernel) (fun v10 => ?_)
      refine s_run (b := [(.iload 4, 2)]) 53 [some (.inr (.inr x0)), some (.inl x1), some (.inl x2), some (.inl x3), some (.inl ((v6 + (1 : Int32)) + ((4 : Int32) * x3)))] [.inl ((v6 + (1 : Int32)) + ((4 : Int32) * x3)), .inr (.inr v10)] (by decide +kernel) rfl ?_
      refine s_ia (by decide +kernel) (fun v11 => ?_)
      refine s_run (b := [(.iconst 1, 1)]) 55 [some (.inr (.inr x0)), some (.inl x1), some (.inl x2), some (.inl x3), some (.inl ((v6 + (1 : Int32)) + ((4 : Int32) * x3)))] [.inl (1 : Int32), .inl v11] (by decide +kernel) rfl ?_
      refine s_ic_ne (tgt := 98) (off := 43) (by decide +kernel) (by decide) (fun h12 => ?_) (fun h12 => ?_)
      · skip
        refine s_run (b := [(.aload_n 0, 1)]) 59 [some (.inr (.inr x0)), some (.inl x1), some (.inl x2), some (.inl x3), some (.inl ((v6 + (1 : Int32)) + ((4 : Int32) * x3)))] [.inr (.inr x0)] (by decide +kernel) rfl ?_
        refine s_gI fl_12_195 rfl (by decide +kernel) (fun v13 => ?_)
        refine s_run (b := [(.aload_n 0, 1)]) 63 [some (.inr (.inr x0)), some (.inl x1), some (.inl x2), some (.inl x3), some (.inl ((v6 + (1 : Int32)) + ((4 : Int32) * x3)))] [.inr (.inr x0), .inl v13] (by decide +kernel) rfl ?_
        refine s_gR fl_12_7 rfl (by decide +kernel) (fun v14 => ?_)
        refine s_run (b := [(.iload 4, 2), (.iconst 2, 1), (.iadd, 1)]) 70 [some (.inr (.inr x0)), some (.inl x1), some (.inl x2), some (.inl x3), some (.inl ((v6 + (1 : Int32)) + ((4 : Int32) * x3)))] [.inl (((v6 + (1 : Int32)) + ((4 : Int32) * x3)) + (2 : Int32)), .inr (.inr v14), .inl v13] (by decide +kernel) rfl ?_
        refine s_ia (by decide +kernel) (fun v15 => ?_)
        refine s_ic_ne (tgt := 94) (off := 23) (by decide +kernel) (by decide) (fun h16 => ?_) (fun h16 => ?_)
        · skip
          refine s_run (b := [(.aload_n 0, 1)]) 75 [some (.inr (.inr x0)), some (.inl x1), some (.inl x2), some (.inl x3), some (.inl ((v6 + (1 : Int32)) + ((4 : Int32) * x3)))] [.inr (.inr x0)] (by decide +kernel) rfl ?_
          refine s_gI fl_12_198 rfl (by decide +kernel) (fun v17 => ?_)
          refine s_run (b := [(.aload_n 0, 1)]) 79 [some (.inr (.inr x0)), some (.inl x1), some (.inl x2), some (.inl x3), some (.inl ((v6 + (1 : Int32)) + ((4 : Int32) * x3)))] [.inr (.inr x0), .inl v17] (by decide +kernel) rfl ?_
          refine s_gR fl_12_7 rfl (by decide +kernel) (fun v18 => ?_)
          refine s_run (b := [(.iload 4, 2), (.iconst 3, 1), (.iadd, 1)]) 86 [some (.inr (.inr x0)), some (.inl x1), some (.inl x2), some (.inl x3), some (.inl ((v6 + (1 : Int32)) + ((4 : Int32) * x3)))] [.inl (((v6 + (1 : Int32)) + ((4 : Int32) * x3)) + (3 : Int32)), .inr (.inr v18), .inl v17] (by decide +kernel) rfl ?_
          refine s_ia (by decide +kernel) (fun v19 => ?_)
          refine s_ic_ne (tgt := 94) (off := 7) (by decide +kernel) (by decide) (fun h20 => ?_) (fun h20 => ?_)
          · skip
            refine s_run (b := [(.iconst 1, 1), (.goto 20, 3), (.istore_n 2, 1), (.iinc 3 1, 3), (.goto (-111), 3)]) 4 [some (.inr (.inr x0)), some (.inl x1), some (.inl (1 : Int32)), some (.inl (x3 + (1 : Int32))), some (.inl ((v6 + (1 : Int32)) + ((4 : Int32) * x3)))] [] (by decide +kernel) rfl ?_
            exact s_lsub (ls' := [some (.inr (.inr x0)), some (.inl x1), some (.inl (1 : Int32)), some (.inl (x3 + (1 : Int32))), none]) ⟨rfl, ⟨rfl, ⟨rfl, ⟨rfl, trivial⟩⟩⟩⟩ (kk1 (1 : Int32) (x3 + (1 : Int32)) z9)
          · skip
            refine s_run (b := [(.iconst 0, 1), (.goto 16, 3), (.istore_n 2, 1), (.iinc 3 1, 3), (.goto (-111), 3)]) 4 [some (.inr (.inr x0)), some (.inl x1), some (.inl (0 : Int32)), some (.inl (x3 + (1 : Int32))), some (.inl ((v6 + (1 : Int32)) + ((4 : Int32) * x3)))] [] (by decide +kernel) rfl ?_
            exact s_lsub (ls' := [some (.inr (.inr x0)), some (.inl x1), some (.inl (0 : Int32)), some (.inl (x3 + (1 : Int32))), none]) ⟨rfl, ⟨rfl, ⟨rfl, ⟨rfl, trivial⟩⟩⟩⟩ (kk1 (0 : Int32) (x3 + (1 : Int32)) z9)
        · skip
          refine s_run (b := [(.iconst 0, 1), (.goto 16, 3), (.istore_n 2, 1), (.iinc 3 1, 3), (.goto (-111), 3)]) 4 [some (.inr (.inr x0)), some (.inl x1), some (.inl (0 : Int32)), some (.inl (x3 + (1 : Int32))), some (.inl ((v6 + (1 : Int32)) + ((4 : Int32) * x3)))] [] (by decide +kernel) rfl ?_
          exact s_lsub (ls' := [some (.inr (.inr x0)), some (.inl x1), some (.inl (0 : Int32)), some (.inl (x3 + (1 : Int32))), none]) ⟨rfl, ⟨rfl, ⟨rfl, ⟨rfl, trivial⟩⟩⟩⟩ (kk1 (0 : Int32) (x3 + (1 : Int32)) z9)
      · skip
        refine s_run (b := [(.aload_n 0, 1)]) 99 [some (.inr (.inr x0)), some (.inl x1), some (.inl x2), some (.inl x3), some (.inl ((v6 + (1 : Int32)) + ((4 : Int32) * x3)))] [.inr (.inr x0)] (by decide +kernel) rfl ?_
        refine s_gI fl_12_195 rfl (by decide +kernel) (fun v21 => ?_)
        refine s_run (b := [(.iconst (-1), 1)]) 103 [some (.inr (.inr x0)), some (.inl x1), some (.inl x2), some (.inl x3), some (.inl ((v6 + (1 : Int32)) + ((4 : Int32) * x3)))] [.inl (-1 : Int32), .inl v21] (by decide +kernel) rfl ?_
        refine s_ic_ne (tgt := 110) (off := 7) (by decide +kernel) (by decide) (fun h22 => ?_) (fun h22 => ?_)
        · skip
          refine s_run (b := [(.iconst 1, 1), (.goto 4, 3), (.istore_n 2, 1), (.iinc 3 1, 3), (.goto (-111), 3)]) 4 [some (.inr (.inr x0)), some (.inl x1), some (.inl (1 : Int32)), some (.inl (x3 + (1 : Int32))), some (.inl ((v6 + (1 : Int32)) + ((4 : Int32) * x3)))] [] (by decide +kernel) rfl ?_
          exact s_lsub (ls' := [some (.inr (.inr x0)), some (.inl x1), some (.inl (1 : Int32)), some (.inl (x3 + (1 : Int32))), none]) ⟨rfl, ⟨rfl, ⟨rfl, ⟨rfl, trivial⟩⟩⟩⟩ (kk1 (1 : Int32) (x3 + (1 : Int32)) z9)
        · skip
          refine s_run (b := [(.iconst 0, 1), (.istore_n 2, 1), (.iinc 3 1, 3), (.goto (-111), 3)]) 4 [some (.inr (.inr x0)), some (.inl x1), some (.inl (0 : Int32)), some (.inl (x3 + (1 : Int32))), some (.inl ((v6 + (1 : Int32)) + ((4 : Int32) * x3)))] [] (by decide +kernel) rfl ?_
          exact s_lsub (ls' := [some (.inr (.inr x0)), some (.inl x1), some (.inl (0 : Int32)), some (.inl (x3 + (1 : Int32))), none]) ⟨rfl, ⟨rfl, ⟨rfl, ⟨rfl, trivial⟩⟩⟩⟩ (kk1 (0 : Int32) (x3 + (1 : Int32)) z9)
set_option maxRecDepth 20000 in
theorem L_X12_isSo_4 {l : Launch} {G : Gv} {lim : Nat × Nat} (M : Mem) (x0 : Nat) (x1 : Int32) (x2 : Int32) (x3 : Int32) (K : ((Int32 × Mem)) → Option (Option Value × Mem)) (kk2_0 : ∀ r : Int32 × Mem, SimR l G Y_X12_isSo lim (K r) 118 [none, none, some (.inl r.1), none, none] [] r.2) : Sim l G Y_X12_isSo lim (f_X12_isSo_L4 M x0 x1 x2 x3) K 4 [some (.inr (.inr x0)), some (.inl x1), some (.inl x2), some (.inl x3), none] [] M :=
  s_iter (f := fun s : Int32 × Int32 × Mem => f_X12_isSo_B4 s.2.2 x0 x1 s.1 s.2.1) (hd := 4) (cl := fun s => [some (.inr (.inr x0)), some (.inl x1), some (.inl s.1), some (.inl s.2.1), none]) (cm := fun s => s.2.2) (xp := fun _ => 118) (xl := fun r => [none, none, some (.inl r.1), none, none]) (xm := fun r => r.2) (fun s K h1 h2 => B_X12_isSo_4 s.2.2 x0 x1 s.1 s.2.1 K (fun a2 a3 a_ => h1 (a2, a3, a_)) (fun a2 a_ => h2 (a2, a_))) 1048576 (x2, x3, M) K kk2_0
def f_X12_isSo (M : Mem) (x0 : Nat) (x1 : Int32) : Option (Int32 × Mem) :=
  (f_X12_isSo_L4 M x0 x1 (1 : Int32) (0 : Int32)).bind fun r1 =>
  (zr r1.1).bind fun w2 => some (w2, r1.2)
set_option maxRecDepth 20000 in
theorem S_X12_isSo {l : Launch} {G : Gv} {lim : Nat × Nat} (M : Mem) (x0 : Nat) (x1 : Int32) : Sim l G Y_X12_isSo lim (f_X12_isSo M x0 x1) (fun z => some (some (.int z.1), z.2)) 0 [some (.inr (.inr x0)), some (.inl x1), none, none, none] [] M := by
  unfold f_X12_isSo
  refine s_run (b := [(.iconst 1, 1), (.istore_n 2, 1), (.iconst 0, 1), (.istore_n 3, 1)]) 4 [some (.inr (.inr x0)), some (.inl x1), some (.inl (1 : Int32)), some (.inl (0 : Int32)), none] [] (by decide +kernel) rfl ?_
  refine s_lsub (ls' := [some (.inr (.inr x0)), some (.inl x1), some (.inl (1 : Int32)), some (.inl (0 : Int32)), none]) ⟨rfl, ⟨rfl, ⟨rfl, ⟨rfl, trivial⟩⟩⟩⟩ ?_
  refine sim_bind (L_X12_isSo_4 M x0 x1 (1 : Int32) (0 : Int32) _ (fun r1 => ?_))
  change Sim l G Y_X12_isSo lim _ _ 118 [none, none, some (.inl r1.1), none, none] [] r1.2
  refine s_run (b := [(.iload_n 2, 1)]) 119 [none, none, some (.inl r1.1), none, none] [.inl r1.1] (by decide +kernel) rfl ?_
  exact s_zr (fun h3 => s_bret h3 (by decide +kernel) rfl)
set_option maxRecDepth 20000 in
theorem c_X12_isSo {l : Launch} {G : Gv} {M : Mem} {x0 : Nat} {x1 : Int32} {z : Int32 × Mem} (h : f_X12_isSo M x0 x1 = some z) : MetS l G Y_X12_isSo [.inr (.inr x0), .inl x1] M (some (.int z.1)) z.2 :=
  met_of (ls0 := [some (.inr (.inr x0)), some (.inl x1), none, none, none]) (by decide) rfl (lv_in (m := 3) rfl) (sl_le (Nat.le_of_ble_eq_true rfl)) (by rw [h]; rfl) (Or.inl ⟨rfl, rfl⟩) (S_X12_isSo M x0 x1)
def f_X12_blame_B32 (M : Mem) (x0 : Nat) (x3 : Int32) (x4 : Int32) (x5 : Int32) : Option ((Int32 × Int32 × Mem) ⊕ ((Int32 × Mem))) :=
  (gI M 12 x0 12).bind fun v1 =>
  (if ((1 : Int32) <<< (v1 &&& 31)) ≤ x5 then
    some (.inr (x4, M))
  else
    (ob M 12 x0).bind fun _ => (f_X12_isSo M x0 x5).bind fun z3 =>
    (if z3.1 = 0 then
      some (.inl (x4, (x5 + (1 : Int32)), z3.2))
    else
      (if x4 = (-1 : Int32) then
        some (.inl (x5, (x5 + (1 : Int32)), z3.2))
      else
        (f_X12_bitsOf z3.2 x5).bind fun v6 =>
        (f_X12_bitsOf z3.2 x4).bind fun v7 =>
        (if v7 ≤ v6 then
          some (.inl (x4, (x5 + (1 : Int32)), z3.2))
        else
          some (.inl (x5, (x5 + (1 : Int32)), z3.2))))))
def f_X12_blame_L32 (M : Mem) (x0 : Nat) (x3 : Int32) (x4 : Int32) (x5 : Int32) : Option ((Int32 × Mem)) := iter (fun s : Int32 × Int32 × Mem => f_X12_blame_B32 s.2.2 x0 x3 s.1 s.2.1) 1048576 (x4, x5, M)
set_option maxRecDepth 20000 in
theorem B_X12_blame_32 {l : Launch} {G : Gv} {lim : Nat × Nat} (M : Mem) (x0 : Nat) (x3 : Int32) (x4 : Int32) (x5 : Int32) (K : (Int32 × Int32 × Mem) ⊕ ((Int32 × Mem)) → Option (Option Value × Mem)) (kk1 : ∀ (s4 : Int32) (s5 : Int32) (s_ : Mem), SimR l G Y_X12_blame lim (K (.inl (s4, s5, s_))) 32 [some (.inr (.inr x0)), none, none, some (.inl x3), some (.inl s4), some (.inl s5)] [] s_) (kk2_0 : ∀ (s4 : Int32) (s_ : Mem), SimR l G Y_X12_blame lim (K (.inr (s4, s_))) 81 [none, none, none, some (.inl x3), some (.inl s4), none] [] s_) : Sim l G Y_X12_blame lim (f_X12_blame_B32 M x0 x3 x4 x5) K 32 [some (.inr (.inr x0)), none, none, some (.inl x3), some (.inl x4), some (.inl x5)] [] M := by
  unfold f_X12_blame_B32
  refine s_run (b := [(.iload 5, 2), (.iconst 1, 1), (.aload_n 0, 1)]) 36 [some (.inr (.inr x0)), none, none, some (.inl x3), some (.inl x4), some (.inl x5)] [.inr (.inr x0), .inl (1 : Int32), .inl x5] (by decide +kernel) rfl ?_
  refine s_gI fl_12_162 rfl (by decide +kernel) (fun v1 => ?_)
  refine s_run (b := [(.ishl, 1)]) 40 [some (.inr (.inr x0)), none, none, some (.inl x3), some (.inl x4), some (.inl x5)] [.inl ((1 : Int32) <<< (v1 &&& 31)), .inl x5] (by decide +kernel) rfl ?_
  refine s_ic_ge (tgt := 81) (off := 41) (by decide +kernel) (by decide) (fun h2 => ?_) (fun h2 => ?_)
  · skip
    exact s_lsub (ls' := [none, none, none, some (.inl x3), some (.inl x4), none]) ⟨rfl, ⟨rfl, trivial⟩⟩ (kk2_0 x4 M)
  · skip
    refine s_run (b := [(.aload_n 0, 1), (.iload 5, 2)]) 46 [some (.inr (.inr x0)), none, none, some (.inl x3), some (.inl x4), some (.inl x5)] [.inl x5, .inr (.inr x0)] (by decide +kernel) rfl ?_
    refine s_cV (Z := Y_X12_isSo) (c := 12) (vs := [.inl x5]) (st := []) (rO := fun z => some (.inl z.1)) (mO := fun z => z.2) zk_X12_isSo zi_X12_isSo q1751 rfl ⟨by decide, by decide⟩ ⟨rfl, rfl⟩ rfl rfl (Nat.le_of_ble_eq_true rfl) (by decide +kernel) (fun z hz => c_X12_isSo hz) (fun z3 => ?_)
    change Sim l G Y_X12_blame lim _ _ 49 [some (.inr (.inr x0)), none, none, some (.inl x3), some (.inl x4), some (.inl x5)] [.inl z3.1] z3.2
    refine s_if_eq (tgt := 75) (off := 26) (by decide +kernel) (by decide) (fun h4 => ?_) (fun h4 => ?_)
    · skip
      refine s_run (b := [(.iinc 5 1, 3), (.goto (-46), 3)]) 32 [some (.inr (.inr x0)), none, none, some (.inl x3), some (.inl x4), some (.inl (x5 + (1 : Int32)))] [] (by decide +kernel) rfl ?_
      exact s_lsub (ls' := [some (.inr (.inr x0)), none, none, some (.inl x3), some (.inl x4), some (.inl (x5 + (1 : Int32)))]) ⟨rfl, ⟨rfl, ⟨rfl, ⟨rfl, trivial⟩⟩⟩⟩ (kk1 x4 (x5 + (1 : Int32)) z3.2)
    · skip
      refine s_run (b := [(.iload 4, 2), (.iconst (-1), 1)]) 55 [some (.inr (.inr x0)), none, none, some (.inl x3), some (.inl x4), some (.inl x5)] [.inl (-1 : Int32), .inl x4] (by decide +kernel) rfl ?_
      refine s_ic_eq (tgt := 71) (off := 16) (by decide +kernel) (by decide) (fun h5 => ?_) (fun h5 => ?_)
      · skip
        refine s_run (b := [(.iload 5, 2), (.istore 4, 2), (.iinc 5 1, 3), (.goto (-46), 3)]) 32 [some (.inr (.inr x0)), none, none, some (.inl x3), some (.inl x5), some (.inl (x5 + (1 : Int32)))] [] (by decide +kernel) rfl ?_
        exact s_lsub (ls' := [some (.inr (.inr x0)), none, none, some (.inl x3), some (.inl x5), some (.inl (x5 + (1 : Int32)))]) ⟨rfl, ⟨rfl, ⟨rfl, ⟨rfl, trivial⟩⟩⟩⟩ (kk1 x5 (x5 + (1 : Int32)) z3.2)
      · skip
        refine s_run (b := [(.iload 5, 2)]) 60 [some (.inr (.inr x0)), none, none, some (.inl x3), some (.inl x4), some (.inl x5)] [.inl x5] (by decide +kernel) rfl ?_
        refine s_cS (Z := Y_X12_bitsOf) (vs := [.inl x5]) (st := []) (rO := fun z => some (.inl z)) (mO := fun _ => z3.2) zk_X12_bitsOf q1650 q1649 ⟨by decide, by decide⟩ ⟨rfl, rfl⟩ rfl rfl (Nat.le_of_ble_eq_true rfl) (by decide +kernel) (fun z hz => c_X12_bitsOf hz) (fun v6 => ?_)
        change Sim l G Y_X12_blame lim _ _ 63 [some (.inr (.inr x0)), none, none, some (.inl x3), some (.inl x4), some (.inl x5)] [.inl v6] z3.2
        refine s_run (b := [(.iload 4, 2)]) 65 [some (.inr (.inr x0)), none, none, some (.inl x3), some (.inl x4), some (.inl x5)] [.inl x4, .inl v6] (by decide +kernel) rfl ?_
        refine s_cS (Z := Y_X12_bitsOf) (vs := [.inl x4]) (st := [.inl v6]) (rO := fun z => some (.inl z)) (mO := fun _ => z3.2) zk_X12_bitsOf q1650 q1649 ⟨by decide, by decide⟩ ⟨rfl, rfl⟩ rfl rfl (Nat.le_of_ble_eq_true rfl) (by decide +kernel) (fun z hz => c_X12_bitsOf hz) (fun v7 => ?_)
        change Sim l G Y_X12_blame lim _ _ 68 [some (.inr (.inr x0)), none, none, some (.inl x3), some (.inl x4), some (.inl x5)] [.inl v7, .inl v6] z3.2
        refine s_ic_ge (tgt := 75) (off := 7) (by decide +kernel) (by decide) (fun h8 => ?_) (fun h8 => ?_)
        · skip
          refine s_run (b := [(.iinc 5 1, 3), (.goto (-46), 3)]) 32 [some (.inr (.inr x0)), none, none, some (.inl x3), some (.inl x4), some (.inl (x5 + (1 : Int32)))] [] (by decide +kernel) rfl ?_
          exact s_lsub (ls' := [some (.inr (.inr x0)), none, none, some (.inl x3), some (.inl x4), some (.inl (x5 + (1 : Int32)))]) ⟨rfl, ⟨rfl, ⟨rfl, ⟨rfl, trivial⟩⟩⟩⟩ (kk1 x4 (x5 + (1 : Int32)) z3.2)
        · skip
          refine s_run (b := [(.iload 5, 2), (.istore 4, 2), (.iinc 5 1, 3), (.goto (-46), 3)]) 32 [some (.inr (.inr x0)), none, none, some (.inl x3), some (.inl x5), some (.inl (x5 + (1 : Int32)))] [] (by decide +kernel) rfl ?_
          exact s_lsub (ls' := [some (.inr (.inr x0)), none, none, some (.inl x3), some (.inl x5), some (.inl (x5 + (1 : Int32)))]) ⟨rfl, ⟨rfl, ⟨rfl, ⟨rfl, trivial⟩⟩⟩⟩ (kk1 x5 (x5 + (1 : Int32)) z3.2)
set_option maxRecDepth 20000 in
theorem L_X12_blame_32 {l : Launch} {G : Gv} {lim : Nat × Nat} (M : Mem) (x0 : Nat) (x3 : Int32) (x4 : Int32) (x5 : Int32) (K : ((Int32 × Mem)) → Option (Option Value × Mem)) (kk2_0 : ∀ r : Int32 × Mem, SimR l G Y_X12_blame lim (K r) 81 [none, none, none, some (.inl x3), some (.inl r.1), none] [] r.2) : Sim l G Y_X12_blame lim (f_X12_blame_L32 M x0 x3 x4 x5) K 32 [some (.inr (.inr x0)), none, none, some (.inl x3), some (.inl x4), some (.inl x5)] [] M :=
  s_iter (f := fun s : Int32 × Int32 × Mem => f_X12_blame_B32 s.2.2 x0 x3 s.1 s.2.1) (hd := 32) (cl := fun s => [some (.inr (.inr x0)), none, none, some (.inl x3), some (.inl s.1), some (.inl s.2.1)]) (cm := fun s => s.2.2) (xp := fun _ => 81) (xl := fun r => [none, none, none, some (.inl x3), some (.inl r.1), none]) (xm := fun r => r.2) (fun s K h1 h2 => B_X12_blame_32 s.2.2 x0 x3 s.1 s.2.1 K (fun a4 a5 a_ => h1 (a4, a5, a_)) (fun a4 a_ => h2 (a4, a_))) 1048576 (x4, x5, M) K kk2_0
def f_X12_blame (M : Mem) (x0 : Nat) (x1 : Int32) (x2 : Int32) (x3 : Int32) : Option (Int32 × Mem) :=
  (ob M 12 x0).bind fun _ => (f_X12_isOffice M x0 x1).bind fun z1 =>
  (if z1.1 = 0 then
    some ((-2 : Int32), z1.2)
  else
    (ob z1.2 12 x0).bind fun _ => (f_X12_isLog z1.2 x0 x2).bind fun z3 =>
    (if z3.1 = 0 then
      some ((-2 : Int32), z3.2)
    else
      (ob z3.2 12 x0).bind fun _ => (f_X12_areThere z3.2 x0).bind fun v5 =>
      (if v5 = 0 then
        some ((-2 : Int32), z3.2)
      else
        (f_X12_blame_L32 z3.2 x0 x3 (-1 : Int32) (0 : Int32)).bind fun r7 =>
        (if r7.1 = (-1 : Int32) then
          some (r7.1, r7.2)
        else
          (if x3 = 0 then
            (f_X12_bitsOf r7.2 r7.1).bind fun v10 =>
            some (v10, r7.2)
          else
            some (r7.1, r7.2))))))
set_option maxRecDepth 20000 in
theorem S_X12_blame {l : Launch} {G : Gv} {lim : Nat × Nat} (M : Mem) (x0 : Nat) (x1 : Int32) (x2 : Int32) (x3 : Int32) : Sim l G Y_X12_blame lim (f_X12_blame M x0 x1 x2 x3) (fun z => some (some (.int z.1), z.2)) 0 [some (.inr (.inr x0)), some (.inl x1), some (.inl x2), some (.inl x3), none, none] [] M := by
  unfold f_X12_blame
  refine s_run (b := [(.aload_n 0, 1), (.iload_n 1, 1)]) 2 [some (.inr (.inr x0)), some (.inl x1), some (.inl x2), some (.inl x3), none, none] [.inl x1, .inr (.inr x0)] (by decide +kernel) rfl ?_
  refine s_cV (Z := Y_X12_isOffice) (c := 12) (vs := [.inl x1]) (st := []) (rO := fun z => some (.inl z.1)) (mO := fun z => z.2) zk_X12_isOffice zi_X12_isOffice q1550 rfl ⟨by decide, by decide⟩ ⟨rfl, rfl⟩ rfl rfl (Nat.le_of_ble_eq_true rfl) (by decide +kernel) (fun z hz => c_X12_isOffice hz) (fun z1 => ?_)
  change Sim l G Y_X12_blame lim _ _ 5 [some (.inr (.inr x0)), some (.inl x1), some (.inl x2), some (.inl x3), none, none] [.inl z1.1] z1.2
  refine s_if_eq (tgt := 23) (off := 18) (by decide +kernel) (by decide) (fun h2 => ?_) (fun h2 => ?_)
  · skip
    refine s_run (b := [(.bipush (-2), 2)]) 25 [some (.inr (.inr x0)), some (.inl x1), some (.inl x2), some (.inl x3), none, none] [.inl (-2 : Int32)] (by decide +kernel) rfl ?_
    exact s_iret (by decide +kernel) rfl
  · skip
    refine s_run (b := [(.aload_n 0, 1), (.iload_n 2, 1)]) 10 [some (.inr (.inr x0)), some (.inl x1), some (.inl x2), some (.inl x3), none, none] [.inl x2, .inr (.inr x0)] (by decide +kernel) rfl ?_
    refine s_cV (Z := Y_X12_isLog) (c := 12) (vs := [.inl x2]) (st := []) (rO := fun z => some (.inl z.1)) (mO := fun z => z.2) zk_X12_isLog zi_X12_isLog q1735 rfl ⟨by decide, by decide⟩ ⟨rfl, rfl⟩ rfl rfl (Nat.le_of_ble_eq_true rfl) (by decide +kernel) (fun z hz => c_X12_isLog hz) (fun z3 => ?_)
    change Sim l G Y_X12_blame lim _ _ 13 [some (.inr (.inr x0)), some (.inl x1), some (.inl x2), some (.inl x3), none, none] [.inl z3.1] z3.2
    refine s_if_eq (tgt := 23) (off := 10) (by decide +kernel) (by decide) (fun h4 => ?_) (fun h4 => ?_)
    · skip
      refine s_run (b := [(.bipush (-2), 2)]) 25 [some (.inr (.inr x0)), some (.inl x1), some (.inl x2), some (.inl x3), none, none] [.inl (-2 : Int32)] (by decide +kernel) rfl ?_
      exact s_iret (by decide +kernel) rfl
    · skip
      refine s_run (b := [(.aload_n 0, 1)]) 17 [some (.inr (.inr x0)), some (.inl x1), some (.inl x2), some (.inl x3), none, none] [.inr (.inr x0)] (by decide +kernel) rfl ?_
      refine s_cV (Z := Y_X12_areThere) (c := 12) (vs := []) (st := []) (rO := fun z => some (.inl z)) (mO := fun _ => z3.2) zk_X12_areThere zi_X12_areThere q1743 rfl ⟨by decide, by decide⟩ ⟨rfl, rfl⟩ rfl rfl (Nat.le_of_ble_eq_true rfl) (by decide +kernel) (fun z hz => c_X12_areThere hz) (fun v5 => ?_)
      change Sim l G Y_X12_blame lim _ _ 20 [some (.inr (.inr x0)), some (.inl x1), some (.inl x2), some (.inl x3), none, none] [.inl v5] z3.2
      refine s_if_ne (tgt := 26) (off := 6) (by decide +kernel) (by decide) (fun h6 => ?_) (fun h6 => ?_)
      · skip
        refine s_run (b := [(.bipush (-2), 2)]) 25 [some (.inr (.inr x0)), some (.inl x1), some (.inl x2), some (.inl x3), none, none] [.inl (-2 : Int32)] (by decide +kernel) rfl ?_
        exact s_iret (by decide +kernel) rfl
      · skip
        refine s_run (b := [(.iconst (-1), 1), (.istore 4, 2), (.iconst 0, 1), (.istore 5, 2)]) 32 [some (.inr (.inr x0)), some (.inl x1), some (.inl x2), some (.inl x3), some (.inl (-1 : Int32)), some (.inl (0 : Int32))] [] (by decide +kernel) rfl ?_
        refine s_lsub (ls' := [some (.inr (.inr x0)), none, none, some (.inl x3), some (.inl (-1 : Int32)), some (.inl (0 : Int32))]) ⟨rfl, ⟨rfl, ⟨rfl, ⟨rfl, trivial⟩⟩⟩⟩ ?_
        refine sim_bind (L_X12_blame_32 z3.2 x0 x3 (-1 : Int32) (0 : Int32) _ (fun r7 => ?_))
        change Sim l G Y_X12_blame lim _ _ 81 [none, none, none, some (.inl x3), some (.inl r7.1), none] [] r7.2
        refine s_run (b := [(.iload 4, 2), (.iconst (-1), 1)]) 84 [none, none, none, some (.inl x3), some (.inl r7.1), none] [.inl (-1 : Int32), .inl r7.1] (by decide +kernel) rfl ?_
        refine s_ic_eq (tgt := 91) (off := 7) (by decide +kernel) (by decide) (fun h8 => ?_) (fun h8 => ?_)
        · skip
          refine s_run (b := [(.iload 4, 2), (.goto 8, 3)]) 101 [none, none, none, some (.inl x3), some (.inl r7.1), none] [.inl r7.1] (by decide +kernel) rfl ?_
          exact s_iret (by decide +kernel) rfl
        · skip
          refine s_run (b := [(.iload_n 3, 1)]) 88 [none, none, none, some (.inl x3), some (.inl r7.1), none] [.inl x3] (by decide +kernel) rfl ?_
          refine s_if_eq (tgt := 96) (off := 8) (by decide +kernel) (by decide) (fun h9 => ?_) (fun h9 => ?_)
          · skip
            refine s_run (b := [(.iload 4, 2)]) 98 [none, none, none, some (.inl x3), some (.inl r7.1), none] [.inl r7.1] (by decide +kernel) rfl ?_
            refine s_cS (Z := Y_X12_bitsOf) (vs := [.inl r7.1]) (st := []) (rO := fun z => some (.inl z)) (mO := fun _ => r7.2) zk_X12_bitsOf q1650 q1649 ⟨by decide, by decide⟩ ⟨rfl, rfl⟩ rfl rfl (Nat.le_of_ble_eq_true rfl) (by decide +kernel) (fun z hz => c_X12_bitsOf hz) (fun v10 => ?_)
            change Sim l G Y_X12_blame lim _ _ 101 [none, none, none, some (.inl x3), some (.inl r7.1), none] [.inl v10] r7.2
            exact s_iret (by decide +kernel) rfl
          · skip
            refine s_run (b := [(.iload 4, 2), (.goto 8, 3)]) 101 [none, none, none, some (.inl x3), some (.inl r7.1), none] [.inl r7.1] (by decide +kernel) rfl ?_
            exact s_iret (by decide +kernel) rfl
set_option maxRecDepth 20000 in
theorem c_X12_blame {l : Launch} {G : Gv} {M : Mem} {x0 : Nat} {x1 : Int32} {x2 : Int32} {x3 : Int32} {z : Int32 × Mem} (h : f_X12_blame M x0 x1 x2 x3 = some z) : MetS l G Y_X12_blame [.inr (.inr x0), .inl x1, .inl x2, .inl x3] M (some (.int z.1)) z.2 :=
  met_of (ls0 := [some (.inr (.inr x0)), some (.inl x1), some (.inl x2), some (.inl x3), none, none]) (by decide) rfl (lv_in (m := 2) rfl) (sl_le (Nat.le_of_ble_eq_true rfl)) (by rw [h]; rfl) (Or.inl ⟨rfl, rfl⟩) (S_X12_blame M x0 x1 x2 x3)
def f_X12_far (M : Mem) (x0 : Int32) (x1 : Int32) : Option (Int32) :=
  (if x0 ≤ x1 then
    some (x1 - x0)
  else
    some (x0 - x1))
set_option maxRecDepth 20000 in
theorem S_X12_far {l : Launch} {G : Gv} {lim : Nat × Nat} (M : Mem) (x0 : Int32) (x1 : Int32) : Sim l G Y_X12_far lim (f_X12_far M x0 x1) (fun z => some (some (.int z), M)) 0 [some (.inl x0), some (.inl x1)] [] M := by
  unfold f_X12_far
  refine s_run (b := [(.iload_n 0, 1), (.iload_n 1, 1)]) 2 [some (.inl x0), some (.inl x1)] [.inl x1, .inl x0] (by decide +kernel) rfl ?_
  refine s_ic_le (tgt := 11) (off := 9) (by decide +kernel) (by decide) (fun h1 => ?_) (fun h1 => ?_)
  · skip
    refine s_run (b := [(.iload_n 1, 1), (.iload_n 0, 1), (.isub, 1)]) 14 [some (.inl x0), some (.inl x1)] [.inl (x1 - x0)] (by decide +kernel) rfl ?_
    exact s_iret (by decide +kernel) rfl
  · skip
    refine s_run (b := [(.iload_n 0, 1), (.iload_n 1, 1), (.isub, 1), (.goto 6, 3)]) 14 [some (.inl x0), some (.inl x1)] [.inl (x0 - x1)] (by decide +kernel) rfl ?_
    exact s_iret (by decide +kernel) rfl
set_option maxRecDepth 20000 in
theorem c_X12_far {l : Launch} {G : Gv} {M : Mem} {x0 : Int32} {x1 : Int32} {z : Int32} (h : f_X12_far M x0 x1 = some z) : MetS l G Y_X12_far [.inl x0, .inl x1] M (some (.int z)) M :=
  met_of (ls0 := [some (.inl x0), some (.inl x1)]) (by decide) rfl (lv_in (m := 0) rfl) (sl_le (Nat.le_of_ble_eq_true rfl)) (by rw [h]; rfl) (Or.inl ⟨rfl, rfl⟩) (S_X12_far M x0 x1)
def f_X12_boardOf_B4 (M : Mem) (x0 : Nat) (x1 : Int32) (x2 : Int32) (x3 : Int32) : Option ((Int32 × Int32) ⊕ ((Int32))) :=
  (gI M 12 x0 13).bind fun v1 =>
  (if v1 ≤ x3 then
    some (.inr x2)
  else
    (ob M 12 x0).bind fun _ => (f_X12_ofCall M x0 x3 (0 : Int32)).bind fun v3 =>
    (ob M 12 x0).bind fun _ => (f_X12_of M x0 v3 (1 : Int32)).bind fun v4 =>
    (f_X12_far M x1 v4).bind fun v5 =>
    some (.inl ((x2 + v5), (x3 + (1 : Int32)))))
def f_X12_boardOf_L4 (M : Mem) (x0 : Nat) (x1 : Int32) (x2 : Int32) (x3 : Int32) : Option ((Int32)) := iter (fun s : Int32 × Int32 => f_X12_boardOf_B4 M x0 x1 s.1 s.2) 1048576 (x2, x3)
set_option maxRecDepth 20000 in
theorem B_X12_boardOf_4 {l : Launch} {G : Gv} {lim : Nat × Nat} (M : Mem) (x0 : Nat) (x1 : Int32) (x2 : Int32) (x3 : Int32) (K : (Int32 × Int32) ⊕ ((Int32)) → Option (Option Value × Mem)) (kk1 : ∀ (s2 : Int32) (s3 : Int32), SimR l G Y_X12_boardOf lim (K (.inl (s2, s3))) 4 [some (.inr (.inr x0)), some (.inl x1), some (.inl s2), some (.inl s3)] [] M) (kk2_0 : ∀ (s2 : Int32), SimR l G Y_X12_boardOf lim (K (.inr s2)) 36 [none, none, some (.inl s2), none] [] M) : Sim l G Y_X12_boardOf lim (f_X12_boardOf_B4 M x0 x1 x2 x3) K 4 [some (.inr (.inr x0)), some (.inl x1), some (.inl x2), some (.inl x3)] [] M := by
  unfold f_X12_boardOf_B4
  refine s_run (b := [(.iload_n 3, 1), (.aload_n 0, 1)]) 6 [some (.inr (.inr x0)), some (.inl x1), some (.inl x2), some (.inl x3)] [.inr (.inr x0), .inl x3] (by decide +kernel) rfl ?_
  refine s_gI fl_12_165 rfl (by decide +kernel) (fun v1 => ?_)
  refine s_ic_ge (tgt := 36) (off := 27) (by decide +kernel) (by decide) (fun h2 => ?_) (fun h2 => ?_)
  · skip
    exact s_lsub (ls' := [none, none, some (.inl x2), none]) ⟨rfl, trivial⟩ (kk2_0 x2)
  · skip
    refine s_run (b := [(.iload_n 2, 1), (.iload_n 1, 1), (.aload_n 0, 1), (.aload_n 0, 1), (.iload_n 3, 1), (.iconst 0, 1)]) 18 [some (.inr (.inr x0)), some (.inl x1), some (.inl x2), some (.inl x3)] [.inl (0 : Int32), .inl x3, .inr (.inr x0), .inr (.inr x0), .inl x1, .inl x2] (by decide +kernel) rfl ?_
    refine s_cV (Z := Y_X12_ofCall) (c := 12) (vs := [.inl x3, .inl (0 : Int32)]) (st := [.inr (.inr x0), .inl x1, .inl x2]) (rO := fun z => some (.inl z)) (mO := fun _ => M) zk_X12_ofCall zi_X12_ofCall q1566 rfl ⟨by decide, by decide⟩ ⟨rfl, rfl⟩ rfl rfl (Nat.le_of_ble_eq_true rfl) (by decide +kernel) (fun z hz => c_X12_ofCall hz) (fun v3 => ?_)
    change Sim l G Y_X12_boardOf lim _ _ 21 [some (.inr (.inr x0)), some (.inl x1), some (.inl x2), some (.inl x3)] [.inl v3, .inr (.inr x0), .inl x1, .inl x2] M
    refine s_run (b := [(.iconst 1, 1)]) 22 [some (.inr (.inr x0)), some (.inl x1), some (.inl x2), some (.inl x3)] [.inl (1 : Int32), .inl v3, .inr (.inr x0), .inl x1, .inl x2] (by decide +kernel) rfl ?_
    refine s_cV (Z := Y_X12_of) (c := 12) (vs := [.inl v3, .inl (1 : Int32)]) (st := [.inl x1, .inl x2]) (rO := fun z => some (.inl z)) (mO := fun _ => M) zk_X12_of zi_X12_of q1558 rfl ⟨by decide, by decide⟩ ⟨rfl, rfl⟩ rfl rfl (Nat.le_of_ble_eq_true rfl) (by decide +kernel) (fun z hz => c_X12_of hz) (fun v4 => ?_)
    change Sim l G Y_X12_boardOf lim _ _ 25 [some (.inr (.inr x0)), some (.inl x1), some (.inl x2), some (.inl x3)] [.inl v4, .inl x1, .inl x2] M
    refine s_cS (Z := Y_X12_far) (vs := [.inl x1, .inl v4]) (st := [.inl x2]) (rO := fun z => some (.inl z)) (mO := fun _ => M) zk_X12_far q1828 q1827 ⟨by decide, by decide⟩ ⟨rfl, rfl⟩ rfl rfl (Nat.le_of_ble_eq_true rfl) (by decide +kernel) (fun z hz => c_X12_far hz) (fun v5 => ?_)
    change Sim l G Y_X12_boardOf lim _ _ 28 [some (.inr (.inr x0)), some (.inl x1), some (.inl x2), some (.inl x3)] [.inl v5, .inl x2] M
    refine s_run (b := [(.iadd, 1), (.istore_n 2, 1), (.iinc 3 1, 3), (.goto (-29), 3)]) 4 [some (.inr (.inr x0)), some (.inl x1), some (.inl (x2 + v5)), some (.inl (x3 + (1 : Int32)))] [] (by decide +kernel) rfl ?_
    exact s_lsub (ls' := [some (.inr (.inr x0)), some (.inl x1), some (.inl (x2 + v5)), some (.inl (x3 + (1 : Int32)))]) ⟨rfl, ⟨rfl, ⟨rfl, ⟨rfl, trivial⟩⟩⟩⟩ (kk1 (x2 + v5) (x3 + (1 : Int32)))
set_option maxRecDepth 20000 in
theorem L_X12_boardOf_4 {l : Launch} {G : Gv} {lim : Nat × Nat} (M : Mem) (x0 : Nat) (x1 : Int32) (x2 : Int32) (x3 : Int32) (K : ((Int32)) → Option (Option Value × Mem)) (kk2_0 : ∀ r : Int32, SimR l G Y_X12_boardOf lim (K r) 36 [none, none, some (.inl r), none] [] M) : Sim l G Y_X12_boardOf lim (f_X12_boardOf_L4 M x0 x1 x2 x3) K 4 [some (.inr (.inr x0)), some (.inl x1), some (.inl x2), some (.inl x3)] [] M :=
  s_iter (f := fun s : Int32 × Int32 => f_X12_boardOf_B4 M x0 x1 s.1 s.2) (hd := 4) (cl := fun s => [some (.inr (.inr x0)), some (.inl x1), some (.inl s.1), some (.inl s.2)]) (cm := fun s => M) (xp := fun _ => 36) (xl := fun r => [none, none, some (.inl r), none]) (xm := fun r => M) (fun s K h1 h2 => B_X12_boardOf_4 M x0 x1 s.1 s.2 K (fun a2 a3 => h1 (a2, a3)) (fun a2 => h2 a2)) 1048576 (x2, x3) K kk2_0
def f_X12_boardOf (M : Mem) (x0 : Nat) (x1 : Int32) : Option (Int32) :=
  (f_X12_boardOf_L4 M x0 x1 (0 : Int32) (0 : Int32)).bind fun r1 =>
  some r1
set_option maxRecDepth 20000 in
theorem S_X12_boardOf {l : Launch} {G : Gv} {lim : Nat × Nat} (M : Mem) (x0 : Nat) (x1 : Int32) : Sim l G Y_X12_boardOf lim (f_X12_boardOf M x0 x1) (fun z => some (some (.int z), M)) 0 [some (.inr (.inr x0)), some (.inl x1), none, none] [] M := by
  unfold f_X12_boardOf
  refine s_run (b := [(.iconst 0, 1), (.istore_n 2, 1), (.iconst 0, 1), (.istore_n 3, 1)]) 4 [some (.inr (.inr x0)), some (.inl x1), some (.inl (0 : Int32)), some (.inl (0 : Int32))] [] (by decide +kernel) rfl ?_
  refine s_lsub (ls' := [some (.inr (.inr x0)), some (.inl x1), some (.inl (0 : Int32)), some (.inl (0 : Int32))]) ⟨rfl, ⟨rfl, ⟨rfl, ⟨rfl, trivial⟩⟩⟩⟩ ?_
  refine sim_bind (L_X12_boardOf_4 M x0 x1 (0 : Int32) (0 : Int32) _ (fun r1 => ?_))
  change Sim l G Y_X12_boardOf lim _ _ 36 [none, none, some (.inl r1), none] [] M
  refine s_run (b := [(.iload_n 2, 1)]) 37 [none, none, some (.inl r1), none] [.inl r1] (by decide +kernel) rfl ?_
  exact s_iret (by decide +kernel) rfl
set_option maxRecDepth 20000 in
theorem c_X12_boardOf {l : Launch} {G : Gv} {M : Mem} {x0 : Nat} {x1 : Int32} {z : Int32} (h : f_X12_boardOf M x0 x1 = some z) : MetS l G Y_X12_boardOf [.inr (.inr x0), .inl x1] M (some (.int z)) M :=
  met_of (ls0 := [some (.inr (.inr x0)), some (.inl x1), none, none]) (by decide) rfl (lv_in (m := 2) rfl) (sl_le (Nat.le_of_ble_eq_true rfl)) (by rw [h]; rfl) (Or.inl ⟨rfl, rfl⟩) (S_X12_boardOf M x0 x1)
def f_X12_board_B15 (M : Mem) (x0 : Nat) (x2 : Int32) (x3 : Int32) (x4 : Int32) : Option ((Int32 × Int32) ⊕ ((Int32))) :=
  (if (30 : Int32) < x4 then
    some (.inr x3)
  else
    (ob M 12 x0).bind fun _ => (f_X12_boardOf M x0 x4).bind fun v2 =>
    (ob M 12 x0).bind fun _ => (f_X12_boardOf M x0 x3).bind fun v3 =>
    (if v3 ≤ v2 then
      some (.inl (x3, (x4 + (1 : Int32))))
    else
      some (.inl (x4, (x4 + (1 : Int32))))))
def f_X12_board_L15 (M : Mem) (x0 : Nat) (x2 : Int32) (x3 : Int32) (x4 : Int32) : Option ((Int32)) := iter (fun s : Int32 × Int32 => f_X12_board_B15 M x0 x2 s.1 s.2) 1048576 (x3, x4)
set_option maxRecDepth 20000 in
theorem B_X12_board_15 {l : Launch} {G : Gv} {lim : Nat × Nat} (M : Mem) (x0 : Nat) (x2 : Int32) (x3 : Int32) (x4 : Int32) (K : (Int32 × Int32) ⊕ ((Int32)) → Option (Option Value × Mem)) (kk1 : ∀ (s3 : Int32) (s4 : Int32), SimR l G Y_X12_board lim (K (.inl (s3, s4))) 15 [some (.inr (.inr x0)), none, some (.inl x2), some (.inl s3), some (.inl s4)] [] M) (kk2_0 : ∀ (s3 : Int32), SimR l G Y_X12_board lim (K (.inr s3)) 49 [some (.inr (.inr x0)), none, some (.inl x2), some (.inl s3), none] [] M) : Sim l G Y_X12_board lim (f_X12_board_B15 M x0 x2 x3 x4) K 15 [some (.inr (.inr x0)), none, some (.inl x2), some (.inl x3), some (.inl x4)] [] M := by
  unfold f_X12_board_B15
  refine s_run (b := [(.iload 4, 2), (.bipush 30, 2)]) 19 [some (.inr (.inr x0)), none, some (.inl x2), some (.inl x3), some (.inl x4)] [.inl (30 : Int32), .inl x4] (by decide +kernel) rfl ?_
  refine s_ic_gt (tgt := 49) (off := 30) (by decide +kernel) (by decide) (fun h1 => ?_) (fun h1 => ?_)
  · skip
    exact s_lsub (ls' := [some (.inr (.inr x0)), none, some (.inl x2), some (.inl x3), none]) ⟨rfl, ⟨rfl, ⟨rfl, trivial⟩⟩⟩ (kk2_0 x3)
  · skip
    refine s_run (b := [(.aload_n 0, 1), (.iload 4, 2)]) 25 [some (.inr (.inr x0)), none, some (.inl x2), some (.inl x3), some (.inl x4)] [.inl x4, .inr (.inr x0)] (by decide +kernel) rfl ?_
    refine s_cV (Z := Y_X12_boardOf) (c := 12) (vs := [.inl x4]) (st := []) (rO := fun z => some (.inl z)) (mO := fun _ => M) zk_X12_boardOf zi_X12_boardOf q1823 rfl ⟨by decide, by decide⟩ ⟨rfl, rfl⟩ rfl rfl (Nat.le_of_ble_eq_true rfl) (by decide +kernel) (fun z hz => c_X12_boardOf hz) (fun v2 => ?_)
    change Sim l G Y_X12_board lim _ _ 28 [some (.inr (.inr x0)), none, some (.inl x2), some (.inl x3), some (.inl x4)] [.inl v2] M
    refine s_run (b := [(.aload_n 0, 1), (.iload_n 3, 1)]) 30 [some (.inr (.inr x0)), none, some (.inl x2), some (.inl x3), some (.inl x4)] [.inl x3, .inr (.inr x0), .inl v2] (by decide +kernel) rfl ?_
    refine s_cV (Z := Y_X12_boardOf) (c := 12) (vs := [.inl x3]) (st := [.inl v2]) (rO := fun z => some (.inl z)) (mO := fun _ => M) zk_X12_boardOf zi_X12_boardOf q1823 rfl ⟨by decide, by decide⟩ ⟨rfl, rfl⟩ rfl rfl (Nat.le_of_ble_eq_true rfl) (by decide +kernel) (fun z hz => c_X12_boardOf hz) (fun v3 => ?_)
    change Sim l G Y_X12_board lim _ _ 33 [some (.inr (.inr x0)), none, some (.inl x2), some (.inl x3), some (.inl x4)] [.inl v3, .inl v2] M
    refine s_ic_ge (tgt := 41) (off := 8) (by decide +kernel) (by decide) (fun h4 => ?_) (fun h4 => ?_)
    · skip
      refine s_run (b := [(.iload_n 3, 1), (.istore_n 3, 1), (.iinc 4 1, 3), (.goto (-31), 3)]) 15 [some (.inr (.inr x0)), none, some (.inl x2), some (.inl x3), some (.inl (x4 + (1 : Int32)))] [] (by decide +kernel) rfl ?_
      exact s_lsub (ls' := [some (.inr (.inr x0)), none, some (.inl x2), some (.inl x3), some (.inl (x4 + (1 : Int32)))]) ⟨rfl, ⟨rfl, ⟨rfl, ⟨rfl, trivial⟩⟩⟩⟩ (kk1 x3 (x4 + (1 : Int32)))
    · skip
      refine s_run (b := [(.iload 4, 2), (.goto 4, 3), (.istore_n 3, 1), (.iinc 4 1, 3), (.goto (-31), 3)]) 15 [some (.inr (.inr x0)), none, some (.inl x2), some (.inl x4), some (.inl (x4 + (1 : Int32)))] [] (by decide +kernel) rfl ?_
      exact s_lsub (ls' := [some (.inr (.inr x0)), none, some (.inl x2), some (.inl x4), some (.inl (x4 + (1 : Int32)))]) ⟨rfl, ⟨rfl, ⟨rfl, ⟨rfl, trivial⟩⟩⟩⟩ (kk1 x4 (x4 + (1 : Int32)))
set_option maxRecDepth 20000 in
theorem L_X12_board_15 {l : Launch} {G : Gv} {lim : Nat × Nat} (M : Mem) (x0 : Nat) (x2 : Int32) (x3 : Int32) (x4 : Int32) (K : ((Int32)) → Option (Option Value × Mem)) (kk2_0 : ∀ r : Int32, SimR l G Y_X12_board lim (K r) 49 [some (.inr (.inr x0)), none, some (.inl x2), some (.inl r), none] [] M) : Sim l G Y_X12_board lim (f_X12_board_L15 M x0 x2 x3 x4) K 15 [some (.inr (.inr x0)), none, some (.inl x2), some (.inl x3), some (.inl x4)] [] M :=
  s_iter (f := fun s : Int32 × Int32 => f_X12_board_B15 M x0 x2 s.1 s.2) (hd := 15) (cl := fun s => [some (.inr (.inr x0)), none, some (.inl x2), some (.inl s.1), some (.inl s.2)]) (cm := fun s => M) (xp := fun _ => 49) (xl := fun r => [some (.inr (.inr x0)), none, some (.inl x2), some (.inl r), none]) (xm := fun r => M) (fun s K h1 h2 => B_X12_board_15 M x0 x2 s.1 s.2 K (fun a3 a4 => h1 (a3, a4)) (fun a3 => h2 a3)) 1048576 (x3, x4) K kk2_0
def f_X12_board (M : Mem) (x0 : Nat) (x1 : Int32) (x2 : Int32) : Option (Int32 × Mem) :=
  (ob M 12 x0).bind fun _ => (f_X12_isOffice M x0 x1).bind fun z1 =>
  (if z1.1 = 0 then
    some ((-1 : Int32), z1.2)
  else
    (f_X12_board_L15 z1.2 x0 x2 (0 : Int32) (1 : Int32)).bind fun r3 =>
    (if x2 = 0 then
      some (r3, z1.2)
    else
      (ob z1.2 12 x0).bind fun _ => (f_X12_boardOf z1.2 x0 r3).bind fun v5 =>
      some (v5, z1.2)))
set_option maxRecDepth 20000 in
theorem S_X12_board {l : Launch} {G : Gv} {lim : Nat × Nat} (M : Mem) (x0 : Nat) (x1 : Int32) (x2 : Int32) : Sim l G Y_X12_board lim (f_X12_board M x0 x1 x2) (fun z => some (some (.int z.1), z.2)) 0 [some (.inr (.inr x0)), some (.inl x1), some (.inl x2), none, none] [] M := by
  unfold f_X12_board
  refine s_run (b := [(.aload_n 0, 1), (.iload_n 1, 1)]) 2 [some (.inr (.inr x0)), some (.inl x1), some (.inl x2), none, none] [.inl x1, .inr (.inr x0)] (by decide +kernel) rfl ?_
  refine s_cV (Z := Y_X12_isOffice) (c := 12) (vs := [.inl x1]) (st := []) (rO := fun z => some (.inl z.1)) (mO := fun z => z.2) zk_X12_isOffice zi_X12_isOffice q1550 rfl ⟨by decide, by decide⟩ ⟨rfl, rfl⟩ rfl rfl (Nat.le_of_ble_eq_true rfl) (by decide +kernel) (fun z hz => c_X12_isOffice hz) (fun z1 => ?_)
  change Sim l G Y_X12_board lim _ _ 5 [some (.inr (.inr x0)), some (.inl x1), some (.inl x2), none, none] [.inl z1.1] z1.2
  refine s_if_ne (tgt := 10) (off := 5) (by decide +kernel) (by decide) (fun h2 => ?_) (fun h2 => ?_)
  · skip
    refine s_run (b := [(.iconst (-1), 1)]) 9 [some (.inr (.inr x0)), some (.inl x1), some (.inl x2), none, none] [.inl (-1 : Int32)] (by decide +kernel) rfl ?_
    exact s_iret (by decide +kernel) rfl
  · skip
    refine s_run (b := [(.iconst 0, 1), (.istore_n 3, 1), (.iconst 1, 1), (.istore 4, 2)]) 15 [some (.inr (.inr x0)), some (.inl x1), some (.inl x2), some (.inl (0 : Int32)), some (.inl (1 : Int32))] [] (by decide +kernel) rfl ?_
    refine s_lsub (ls' := [some (.inr (.inr x0)), none, some (.inl x2), some (.inl (0 : Int32)), some (.inl (1 : Int32))]) ⟨rfl, ⟨rfl, ⟨rfl, ⟨rfl, trivial⟩⟩⟩⟩ ?_
    refine sim_bind (L_X12_board_15 z1.2 x0 x2 (0 : Int32) (1 : Int32) _ (fun r3 => ?_))
    change Sim l G Y_X12_board lim _ _ 49 [some (.inr (.inr x0)), none, some (.inl x2), some (.inl r3), none] [] z1.2
    refine s_run (b := [(.iload_n 2, 1)]) 50 [some (.inr (.inr x0)), none, some (.inl x2), some (.inl r3), none] [.inl x2] (by decide +kernel) rfl ?_
    refine s_if_eq (tgt := 61) (off := 11) (by decide +kernel) (by decide) (fun h4 => ?_) (fun h4 => ?_)
    · skip
      refine s_run (b := [(.iload_n 3, 1)]) 62 [some (.inr (.inr x0)), none, some (.inl x2), some (.inl r3), none] [.inl r3] (by decide +kernel) rfl ?_
      exact s_iret (by decide +kernel) rfl
    · skip
      refine s_run (b := [(.aload_n 0, 1), (.iload_n 3, 1)]) 55 [some (.inr (.inr x0)), none, some (.inl x2), some (.inl r3), none] [.inl r3, .inr (.inr x0)] (by decide +kernel) rfl ?_
      refine s_cV (Z := Y_X12_boardOf) (c := 12) (vs := [.inl r3]) (st := []) (rO := fun z => some (.inl z)) (mO := fun _ => z1.2) zk_X12_boardOf zi_X12_boardOf q1823 rfl ⟨by decide, by decide⟩ ⟨rfl, rfl⟩ rfl rfl (Nat.le_of_ble_eq_true rfl) (by decide +kernel) (fun z hz => c_X12_boardOf hz) (fun v5 => ?_)
      change Sim l G Y_X12_board lim _ _ 58 [some (.inr (.inr x0)), none, some (.inl x2), some (.inl r3), none] [.inl v5] z1.2
      refine s_run (b := [(.goto 4, 3)]) 62 [some (.inr (.inr x0)), none, some (.inl x2), some (.inl r3), none] [.inl v5] (by decide +kernel) rfl ?_
      exact s_iret (by decide +kernel) rfl
set_option maxRecDepth 20000 in
theorem c_X12_board {l : Launch} {G : Gv} {M : Mem} {x0 : Nat} {x1 : Int32} {x2 : Int32} {z : Int32 × Mem} (h : f_X12_board M x0 x1 x2 = some z) : MetS l G Y_X12_board [.inr (.inr x0), .inl x1, .inl x2] M (some (.int z.1)) z.2 :=
  met_of (ls0 := [some (.inr (.inr x0)), some (.inl x1), some (.inl x2), none, none]) (by decide) rfl (lv_in (m := 2) rfl) (sl_le (Nat.le_of_ble_eq_true rfl)) (by rw [h]; rfl) (Or.inl ⟨rfl, rfl⟩) (S_X12_board M x0 x1 x2)
def f_X12_common_B6 (M : Mem)  (x4 : Int64) (x6 : Int64) : Option ((Int64 × Int64) ⊕ ((Int64))) :=
  (if (lg_cmp x6 (0 : Int64)) = 0 then
    some (.inr x4)
  else
    (rmL x4 x6).bind fun v2 =>
    some (.inl (x6, v2)))
def f_X12_common_L6 (M : Mem)  (x4 : Int64) (x6 : Int64) : Option ((Int64)) := iter (fun s : Int64 × Int64 => f_X12_common_B6 M  s.1 s.2) 1048576 (x4, x6)
set_option maxRecDepth 20000 in
theorem B_X12_common_6 {l : Launch} {G : Gv} {lim : Nat × Nat} (M : Mem)  (x4 : Int64) (x6 : Int64) (K : (Int64 × Int64) ⊕ ((Int64)) → Option (Option Value × Mem)) (kk1 : ∀ (s4 : Int64) (s6 : Int64), SimR l G Y_X12_common lim (K (.inl (s4, s6))) 6 [none, none, none, none, some (.inr (.inl s4)), none, some (.inr (.inl s6)), none, none, none] [] M) (kk2_0 : ∀ (s4 : Int64), SimR l G Y_X12_common lim (K (.inr s4)) 31 [none, none, none, none, some (.inr (.inl s4)), none, none, none, none, none] [] M) : Sim l G Y_X12_common lim (f_X12_common_B6 M  x4 x6) K 6 [none, none, none, none, some (.inr (.inl x4)), none, some (.inr (.inl x6)), none, none, none] [] M := by
  unfold f_X12_common_B6
  refine s_run (b := [(.lload 6, 2), (.lconst 0, 1), (.lcmp, 1)]) 10 [none, none, none, none, some (.inr (.inl x4)), none, some (.inr (.inl x6)), none, none, none] [.inl (lg_cmp x6 (0 : Int64))] (by decide +kernel) rfl ?_
  refine s_if_eq (tgt := 31) (off := 21) (by decide +kernel) (by decide) (fun h1 => ?_) (fun h1 => ?_)
  · skip
    exact s_lsub (ls' := [none, none, none, none, some (.inr (.inl x4)), none, none, none, none, none]) ⟨rfl, trivial⟩ (kk2_0 x4)
  · skip
    refine s_run (b := [(.lload 4, 2), (.lload 6, 2)]) 17 [none, none, none, none, some (.inr (.inl x4)), none, some (.inr (.inl x6)), none, none, none] [.inr (.inl x6), .inr (.inl x4)] (by decide +kernel) rfl ?_
    refine s_lrem (by decide +kernel) (fun v2 => ?_)
    refine s_run (b := [(.lstore 8, 2), (.lload 6, 2), (.lstore 4, 2), (.lload 8, 2), (.lstore 6, 2), (.goto (-22), 3)]) 6 [none, none, none, none, some (.inr (.inl x6)), none, some (.inr (.inl v2)), none, some (.inr (.inl v2)), none] [] (by decide +kernel) rfl ?_
    exact s_lsub (ls' := [none, none, none, none, some (.inr (.inl x6)), none, some (.inr (.inl v2)), none, none, none]) ⟨rfl, ⟨rfl, trivial⟩⟩ (kk1 x6 v2)
set_option maxRecDepth 20000 in
theorem L_X12_common_6 {l : Launch} {G : Gv} {lim : Nat × Nat} (M : Mem)  (x4 : Int64) (x6 : Int64) (K : ((Int64)) → Option (Option Value × Mem)) (kk2_0 : ∀ r : Int64, SimR l G Y_X12_common lim (K r) 31 [none, none, none, none, some (.inr (.inl r)), none, none, none, none, none] [] M) : Sim l G Y_X12_common lim (f_X12_common_L6 M  x4 x6) K 6 [none, none, none, none, some (.inr (.inl x4)), none, some (.inr (.inl x6)), none, none, none] [] M :=
  s_iter (f := fun s : Int64 × Int64 => f_X12_common_B6 M  s.1 s.2) (hd := 6) (cl := fun s => [none, none, none, none, some (.inr (.inl s.1)), none, some (.inr (.inl s.2)), none, none, none]) (cm := fun s => M) (xp := fun _ => 31) (xl := fun r => [none, none, none, none, some (.inr (.inl r)), none, none, none, none, none]) (xm := fun r => M) (fun s K h1 h2 => B_X12_common_6 M  s.1 s.2 K (fun a4 a6 => h1 (a4, a6)) (fun a4 => h2 a4)) 1048576 (x4, x6) K kk2_0
def f_X12_common (M : Mem) (x0 : Int64) (x2 : Int64) : Option (Int64) :=
  (f_X12_common_L6 M  x0 x2).bind fun r1 =>
  some r1
set_option maxRecDepth 20000 in
theorem S_X12_common {l : Launch} {G : Gv} {lim : Nat × Nat} (M : Mem) (x0 : Int64) (x2 : Int64) : Sim l G Y_X12_common lim (f_X12_common M x0 x2) (fun z => some (some (.long z), M)) 0 [some (.inr (.inl x0)), none, some (.inr (.inl x2)), none, none, none, none, none, none, none] [] M := by
  unfold f_X12_common
  refine s_run (b := [(.lload_n 0, 1), (.lstore 4, 2), (.lload_n 2, 1), (.lstore 6, 2)]) 6 [some (.inr (.inl x0)), none, some (.inr (.inl x2)), none, some (.inr (.inl x0)), none, some (.inr (.inl x2)), none, none, none] [] (by decide +kernel) rfl ?_
  refine s_lsub (ls' := [none, none, none, none, some (.inr (.inl x0)), none, some (.inr (.inl x2)), none, none, none]) ⟨rfl, ⟨rfl, trivial⟩⟩ ?_
  refine sim_bind (L_X12_common_6 M  x0 x2 _ (fun r1 => ?_))
  change Sim l G Y_X12_common lim _ _ 31 [none, none, none, none, some (.inr (.inl r1)), none, none, none, none, none] [] M
  refine s_run (b := [(.lload 4, 2)]) 33 [none, none, none, none, some (.inr (.inl r1)), none, none, none, none, none] [.inr (.inl r1)] (by decide +kernel) rfl ?_
  exact s_lret (by decide +kernel) rfl
set_option maxRecDepth 20000 in
theorem c_X12_common {l : Launch} {G : Gv} {M : Mem} {x0 : Int64} {x2 : Int64} {z : Int64} (h : f_X12_common M x0 x2 = some z) : MetS l G Y_X12_common [.inr (.inl x0), .inr (.inl x2)] M (some (.long z)) M :=
  met_of (ls0 := [some (.inr (.inl x0)), none, some (.inr (.inl x2)), none, none, none, none, none, none, none]) (by decide) rfl (lv_in (m := 6) rfl) (sl_le (Nat.le_of_ble_eq_true rfl)) (by rw [h]; rfl) (Or.inl ⟨rfl, rfl⟩) (S_X12_common M x0 x2)
def f_X12_fraction_J10 (M : Mem) (x0 : Int64) (x2 : Int64) (y0 : Int64) : Option (Int64) :=
  (f_X12_common M x0 x2).bind fun v1 =>
  (dvL y0 v1).bind fun v2 =>
  some v2
set_option maxRecDepth 20000 in
theorem J_X12_fraction_10 {l : Launch} {G : Gv} {lim : Nat × Nat} (M : Mem) (x0 : Int64) (x2 : Int64) (y0 : Int64)  : Sim l G Y_X12_fraction lim (f_X12_fraction_J10 M x0 x2 y0) (fun z => some (some (.long z), M)) 10 [some (.inr (.inl x0)), none, some (.inr (.inl x2)), none, none] [.inr (.inl y0)] M := by
  unfold f_X12_fraction_J10
  refine s_run (b := [(.lload_n 0, 1), (.lload_n 2, 1)]) 12 [some (.inr (.inl x0)), none, some (.inr (.inl x2)), none, none] [.inr (.inl x2), .inr (.inl x0), .inr (.inl y0)] (by decide +kernel) rfl ?_
  refine s_cS (Z := Y_X12_common) (vs := [.inr (.inl x0), .inr (.inl x2)]) (st := [.inr (.inl y0)]) (rO := fun z => some (.inr (.inl z))) (mO := fun _ => M) zk_X12_common q1677 q1676 ⟨by decide, by decide⟩ ⟨rfl, rfl⟩ rfl rfl (Nat.le_of_ble_eq_true rfl) (by decide +kernel) (fun z hz => c_X12_common hz) (fun v1 => ?_)
  change Sim l G Y_X12_fraction lim _ _ 15 [some (.inr (.inl x0)), none, some (.inr (.inl x2)), none, none] [.inr (.inl v1), .inr (.inl y0)] M
  refine s_ldiv (by decide +kernel) (fun v2 => ?_)
  exact s_lret (by decide +kernel) rfl
def f_X12_fraction (M : Mem) (x0 : Int64) (x2 : Int64) (x4 : Int32) : Option (Int64) :=
  (if x4 = 0 then
    f_X12_fraction_J10 M x0 x2 x0
  else
    f_X12_fraction_J10 M x0 x2 x2)
set_option maxRecDepth 20000 in
theorem S_X12_fraction {l : Launch} {G : Gv} {lim : Nat × Nat} (M : Mem) (x0 : Int64) (x2 : Int64) (x4 : Int32) : Sim l G Y_X12_fraction lim (f_X12_fraction M x0 x2 x4) (fun z => some (some (.long z), M)) 0 [some (.inr (.inl x0)), none, some (.inr (.inl x2)), none, some (.inl x4)] [] M := by
  unfold f_X12_fraction
  refine s_run (b := [(.iload 4, 2)]) 2 [some (.inr (.inl x0)), none, some (.inr (.inl x2)), none, some (.inl x4)] [.inl x4] (by decide +kernel) rfl ?_
  refine s_if_eq (tgt := 9) (off := 7) (by decide +kernel) (by decide) (fun h1 => ?_) (fun h1 => ?_)
  · skip
    refine s_run (b := [(.lload_n 0, 1)]) 10 [some (.inr (.inl x0)), none, some (.inr (.inl x2)), none, some (.inl x4)] [.inr (.inl x0)] (by decide +kernel) rfl ?_
    exact s_lsub (ls' := [some (.inr (.inl x0)), none, some (.inr (.inl x2)), none, none]) ⟨rfl, ⟨rfl, trivial⟩⟩ (J_X12_fraction_10 M x0 x2 x0)
  · skip
    refine s_run (b := [(.lload_n 2, 1), (.goto 4, 3)]) 10 [some (.inr (.inl x0)), none, some (.inr (.inl x2)), none, some (.inl x4)] [.inr (.inl x2)] (by decide +kernel) rfl ?_
    exact s_lsub (ls' := [some (.inr (.inl x0)), none, some (.inr (.inl x2)), none, none]) ⟨rfl, ⟨rfl, trivial⟩⟩ (J_X12_fraction_10 M x0 x2 x2)
set_option maxRecDepth 20000 in
theorem c_X12_fraction {l : Launch} {G : Gv} {M : Mem} {x0 : Int64} {x2 : Int64} {x4 : Int32} {z : Int64} (h : f_X12_fraction M x0 x2 x4 = some z) : MetS l G Y_X12_fraction [.inr (.inl x0), .inr (.inl x2), .inl x4] M (some (.long z)) M :=
  met_of (ls0 := [some (.inr (.inl x0)), none, some (.inr (.inl x2)), none, some (.inl x4)]) (by decide) rfl (lv_in (m := 0) rfl) (sl_le (Nat.le_of_ble_eq_true rfl)) (by rw [h]; rfl) (Or.inl ⟨rfl, rfl⟩) (S_X12_fraction M x0 x2 x4)
def f_X12_tens_B4 (M : Mem) (x0 : Int32) (x1 : Int64) (x3 : Int32) : Option ((Int64 × Int32) ⊕ ((Int64))) :=
  (if x0 ≤ x3 then
    some (.inr x1)
  else
    some (.inl ((x1 * (10 : Int64)), (x3 + (1 : Int32)))))
def f_X12_tens_L4 (M : Mem) (x0 : Int32) (x1 : Int64) (x3 : Int32) : Option ((Int64)) := iter (fun s : Int64 × Int32 => f_X12_tens_B4 M x0 s.1 s.2) 1048576 (x1, x3)
set_option maxRecDepth 20000 in
theorem B_X12_tens_4 {l : Launch} {G : Gv} {lim : Nat × Nat} (M : Mem) (x0 : Int32) (x1 : Int64) (x3 : Int32) (K : (Int64 × Int32) ⊕ ((Int64)) → Option (Option Value × Mem)) (kk1 : ∀ (s1 : Int64) (s3 : Int32), SimR l G Y_X12_tens lim (K (.inl (s1, s3))) 4 [some (.inl x0), some (.inr (.inl s1)), none, some (.inl s3)] [] M) (kk2_0 : ∀ (s1 : Int64), SimR l G Y_X12_tens lim (K (.inr s1)) 21 [none, some (.inr (.inl s1)), none, none] [] M) : Sim l G Y_X12_tens lim (f_X12_tens_B4 M x0 x1 x3) K 4 [some (.inl x0), some (.inr (.inl x1)), none, some (.inl x3)] [] M := by
  unfold f_X12_tens_B4
  refine s_run (b := [(.iload_n 3, 1), (.iload_n 0, 1)]) 6 [some (.inl x0), some (.inr (.inl x1)), none, some (.inl x3)] [.inl x0, .inl x3] (by decide +kernel) rfl ?_
  refine s_ic_ge (tgt := 21) (off := 15) (by decide +kernel) (by decide) (fun h1 => ?_) (fun h1 => ?_)
  · skip
    exact s_lsub (ls' := [none, some (.inr (.inl x1)), none, none]) ⟨rfl, trivial⟩ (kk2_0 x1)
  · skip
    refine s_run (b := [(.lload_n 1, 1)]) 10 [some (.inl x0), some (.inr (.inl x1)), none, some (.inl x3)] [.inr (.inl x1)] (by decide +kernel) rfl ?_
    refine s_ldc2 q1672 (by decide +kernel) ?_
    change Sim l G Y_X12_tens lim _ _ 13 [some (.inl x0), some (.inr (.inl x1)), none, some (.inl x3)] [.inr (.inl (10 : Int64)), .inr (.inl x1)] M
    refine s_run (b := [(.lmul, 1), (.lstore_n 1, 1), (.iinc 3 1, 3), (.goto (-14), 3)]) 4 [some (.inl x0), some (.inr (.inl (x1 * (10 : Int64)))), none, some (.inl (x3 + (1 : Int32)))] [] (by decide +kernel) rfl ?_
    exact s_lsub (ls' := [some (.inl x0), some (.inr (.inl (x1 * (10 : Int64)))), none, some (.inl (x3 + (1 : Int32)))]) ⟨rfl, ⟨rfl, ⟨rfl, trivial⟩⟩⟩ (kk1 (x1 * (10 : Int64)) (x3 + (1 : Int32)))
set_option maxRecDepth 20000 in
theorem L_X12_tens_4 {l : Launch} {G : Gv} {lim : Nat × Nat} (M : Mem) (x0 : Int32) (x1 : Int64) (x3 : Int32) (K : ((Int64)) → Option (Option Value × Mem)) (kk2_0 : ∀ r : Int64, SimR l G Y_X12_tens lim (K r) 21 [none, some (.inr (.inl r)), none, none] [] M) : Sim l G Y_X12_tens lim (f_X12_tens_L4 M x0 x1 x3) K 4 [some (.inl x0), some (.inr (.inl x1)), none, some (.inl x3)] [] M :=
  s_iter (f := fun s : Int64 × Int32 => f_X12_tens_B4 M x0 s.1 s.2) (hd := 4) (cl := fun s => [some (.inl x0), some (.inr (.inl s.1)), none, some (.inl s.2)]) (cm := fun s => M) (xp := fun _ => 21) (xl := fun r => [none, some (.inr (.inl r)), none, none]) (xm := fun r => M) (fun s K h1 h2 => B_X12_tens_4 M x0 s.1 s.2 K (fun a1 a3 => h1 (a1, a3)) (fun a1 => h2 a1)) 1048576 (x1, x3) K kk2_0
def f_X12_tens (M : Mem) (x0 : Int32) : Option (Int64) :=
  (f_X12_tens_L4 M x0 (1 : Int64) (0 : Int32)).bind fun r1 =>
  some r1
set_option maxRecDepth 20000 in
theorem S_X12_tens {l : Launch} {G : Gv} {lim : Nat × Nat} (M : Mem) (x0 : Int32) : Sim l G Y_X12_tens lim (f_X12_tens M x0) (fun z => some (some (.long z), M)) 0 [some (.inl x0), none, none, none] [] M := by
  unfold f_X12_tens
  refine s_run (b := [(.lconst 1, 1), (.lstore_n 1, 1), (.iconst 0, 1), (.istore_n 3, 1)]) 4 [some (.inl x0), some (.inr (.inl (1 : Int64))), none, some (.inl (0 : Int32))] [] (by decide +kernel) rfl ?_
  refine s_lsub (ls' := [some (.inl x0), some (.inr (.inl (1 : Int64))), none, some (.inl (0 : Int32))]) ⟨rfl, ⟨rfl, ⟨rfl, trivial⟩⟩⟩ ?_
  refine sim_bind (L_X12_tens_4 M x0 (1 : Int64) (0 : Int32) _ (fun r1 => ?_))
  change Sim l G Y_X12_tens lim _ _ 21 [none, some (.inr (.inl r1)), none, none] [] M
  refine s_run (b := [(.lload_n 1, 1)]) 22 [none, some (.inr (.inl r1)), none, none] [.inr (.inl r1)] (by decide +kernel) rfl ?_
  exact s_lret (by decide +kernel) rfl
set_option maxRecDepth 20000 in
theorem c_X12_tens {l : Launch} {G : Gv} {M : Mem} {x0 : Int32} {z : Int64} (h : f_X12_tens M x0 = some z) : MetS l G Y_X12_tens [.inl x0] M (some (.long z)) M :=
  met_of (ls0 := [some (.inl x0), none, none, none]) (by decide) rfl (lv_in (m := 3) rfl) (sl_le (Nat.le_of_ble_eq_true rfl)) (by rw [h]; rfl) (Or.inl ⟨rfl, rfl⟩) (S_X12_tens M x0)
def f_X12_triesBy (M : Mem) (x0 : Nat) (x1 : Int32) (x2 : Int32) : Option (Int64) :=
  (f_X12_bitsOf M x1).bind fun v1 =>
  (f_X12_tens M v1).bind fun v2 =>
  (ob M 12 x0).bind fun _ => (f_X12_of M x0 x2 (4 : Int32)).bind fun v3 =>
  (gR M 12 x0 34).bind fun v4 =>
  (aL M v4 (x1 &&& (((1 : Int32) <<< (x2 &&& 31)) ^^^ (-1 : Int32)))).bind fun v5 =>
  some (v2 + ((Int32.toInt64 ((10 : Int32) - v3)) * v5))
set_option maxRecDepth 20000 in
theorem S_X12_triesBy {l : Launch} {G : Gv} {lim : Nat × Nat} (M : Mem) (x0 : Nat) (x1 : Int32) (x2 : Int32) : Sim l G Y_X12_triesBy lim (f_X12_triesBy M x0 x1 x2) (fun z => some (some (.long z), M)) 0 [some (.inr (.inr x0)), some (.inl x1), some (.inl x2)] [] M := by
  unfold f_X12_triesBy
  refine s_run (b := [(.iload_n 1, 1)]) 1 [some (.inr (.inr x0)), some (.inl x1), some (.inl x2)] [.inl x1] (by decide +kernel) rfl ?_
  refine s_cS (Z := Y_X12_bitsOf) (vs := [.inl x1]) (st := []) (rO := fun z => some (.inl z)) (mO := fun _ => M) zk_X12_bitsOf q1650 q1649 ⟨by decide, by decide⟩ ⟨rfl, rfl⟩ rfl rfl (Nat.le_of_ble_eq_true rfl) (by decide +kernel) (fun z hz => c_X12_bitsOf hz) (fun v1 => ?_)
  change Sim l G Y_X12_triesBy lim _ _ 4 [some (.inr (.inr x0)), some (.inl x1), some (.inl x2)] [.inl v1] M
  refine s_cS (Z := Y_X12_tens) (vs := [.inl v1]) (st := []) (rO := fun z => some (.inr (.inl z))) (mO := fun _ => M) zk_X12_tens q1670 q1669 ⟨by decide, by decide⟩ ⟨rfl, rfl⟩ rfl rfl (Nat.le_of_ble_eq_true rfl) (by decide +kernel) (fun z hz => c_X12_tens hz) (fun v2 => ?_)
  change Sim l G Y_X12_triesBy lim _ _ 7 [some (.inr (.inr x0)), some (.inl x1), some (.inl x2)] [.inr (.inl v2)] M
  refine s_run (b := [(.bipush 10, 2), (.aload_n 0, 1), (.iload_n 2, 1), (.iconst 4, 1)]) 12 [some (.inr (.inr x0)), some (.inl x1), some (.inl x2)] [.inl (4 : Int32), .inl x2, .inr (.inr x0), .inl (10 : Int32), .inr (.inl v2)] (by decide +kernel) rfl ?_
  refine s_cV (Z := Y_X12_of) (c := 12) (vs := [.inl x2, .inl (4 : Int32)]) (st := [.inl (10 : Int32), .inr (.inl v2)]) (rO := fun z => some (.inl z)) (mO := fun _ => M) zk_X12_of zi_X12_of q1558 rfl ⟨by decide, by decide⟩ ⟨rfl, rfl⟩ rfl rfl (Nat.le_of_ble_eq_true rfl) (by decide +kernel) (fun z hz => c_X12_of hz) (fun v3 => ?_)
  change Sim l G Y_X12_triesBy lim _ _ 15 [some (.inr (.inr x0)), some (.inl x1), some (.inl x2)] [.inl v3, .inl (10 : Int32), .inr (.inl v2)] M
  refine s_run (b := [(.isub, 1), (.i2l, 1), (.aload_n 0, 1)]) 18 [some (.inr (.inr x0)), some (.inl x1), some (.inl x2)] [.inr (.inr x0), .inr (.inl (Int32.toInt64 ((10 : Int32) - v3))), .inr (.inl v2)] (by decide +kernel) rfl ?_
  refine s_gR fl_12_35 rfl (by decide +kernel) (fun v4 => ?_)
  refine s_run (b := [(.iload_n 1, 1), (.iconst 1, 1), (.iload_n 2, 1), (.ishl, 1), (.iconst (-1), 1), (.ixor, 1), (.iand, 1)]) 28 [some (.inr (.inr x0)), some (.inl x1), some (.inl x2)] [.inl (x1 &&& (((1 : Int32) <<< (x2 &&& 31)) ^^^ (-1 : Int32))), .inr (.inr v4), .inr (.inl (Int32.toInt64 ((10 : Int32) - v3))), .inr (.inl v2)] (by decide +kernel) rfl ?_
  refine s_la (by decide +kernel) (fun v5 => ?_)
  refine s_run (b := [(.lmul, 1), (.ladd, 1)]) 31 [some (.inr (.inr x0)), some (.inl x1), some (.inl x2)] [.inr (.inl (v2 + ((Int32.toInt64 ((10 : Int32) - v3)) * v5)))] (by decide +kernel) rfl ?_
  exact s_lret (by decide +kernel) rfl
set_option maxRecDepth 20000 in
theorem c_X12_triesBy {l : Launch} {G : Gv} {M : Mem} {x0 : Nat} {x1 : Int32} {x2 : Int32} {z : Int64} (h : f_X12_triesBy M x0 x1 x2 = some z) : MetS l G Y_X12_triesBy [.inr (.inr x0), .inl x1, .inl x2] M (some (.long z)) M :=
  met_of (ls0 := [some (.inr (.inr x0)), some (.inl x1), some (.inl x2)]) (by decide) rfl (lv_in (m := 0) rfl) (sl_le (Nat.le_of_ble_eq_true rfl)) (by rw [h]; rfl) (Or.inl ⟨rfl, rfl⟩) (S_X12_triesBy M x0 x1 x2)
def f_X12_laysOut_B27 (M : Mem) (x0 : Nat) (x1 : Int32) (x2 : Int64) (x4 : Int32) : Option ((Int64 × Int32) ⊕ ((Int64))) :=
  (gI M 12 x0 12).bind fun v1 =>
  (if v1 ≤ x4 then
    some (.inr x2)
  else
    (f_X12_holds M x1 x4).bind fun v3 =>
    (if v3 = 0 then
      some (.inl (x2, (x4 + (1 : Int32))))
    else
      (ob M 12 x0).bind fun _ => (f_X12_triesBy M x0 x1 x4).bind fun v5 =>
      (if (lg_cmp x2 (0 : Int64)) < 0 then
        some (.inl (v5, (x4 + (1 : Int32))))
      else
        (if 0 ≤ (lg_cmp v5 x2) then
          some (.inl (x2, (x4 + (1 : Int32))))
        else
          some (.inl (v5, (x4 + (1 : Int32))))))))
def f_X12_laysOut_L27 (M : Mem) (x0 : Nat) (x1 : Int32) (x2 : Int64) (x4 : Int32) : Option ((Int64)) := iter (fun s : Int64 × Int32 => f_X12_laysOut_B27 M x0 x1 s.1 s.2) 1048576 (x2, x4)
set_option maxRecDepth 20000 in
theorem B_X12_laysOut_27 {l : Launch} {G : Gv} {lim : Nat × Nat} (M : Mem) (x0 : Nat) (x1 : Int32) (x2 : Int64) (x4 : Int32) (K : (Int64 × Int32) ⊕ ((Int64)) → Option (Option Value × Mem)) (kk1 : ∀ (s2 : Int64) (s4 : Int32), SimR l G Y_X12_laysOut lim (K (.inl (s2, s4))) 27 [some (.inr (.inr x0)), some (.inl x1), some (.inr (.inl s2)), none, some (.inl s4), none, none] [] M) (kk2_0 : ∀ (s2 : Int64), SimR l G Y_X12_laysOut lim (K (.inr s2)) 83 [some (.inr (.inr x0)), some (.inl x1), some (.inr (.inl s2)), none, none, none, none] [] M) : Sim l G Y_X12_laysOut lim (f_X12_laysOut_B27 M x0 x1 x2 x4) K 27 [some (.inr (.inr x0)), some (.inl x1), some (.inr (.inl x2)), none, some (.inl x4), none, none] [] M := by
  unfold f_X12_laysOut_B27
  refine s_run (b := [(.iload 4, 2), (.aload_n 0, 1)]) 30 [some (.inr (.inr x0)), some (.inl x1), some (.inr (.inl x2)), none, some (.inl x4), none, none] [.inr (.inr x0), .inl x4] (by decide +kernel) rfl ?_
  refine s_gI fl_12_162 rfl (by decide +kernel) (fun v1 => ?_)
  refine s_ic_ge (tgt := 83) (off := 50) (by decide +kernel) (by decide) (fun h2 => ?_) (fun h2 => ?_)
  · skip
    exact s_lsub (ls' := [some (.inr (.inr x0)), some (.inl x1), some (.inr (.inl x2)), none, none, none, none]) ⟨rfl, ⟨rfl, ⟨rfl, trivial⟩⟩⟩ (kk2_0 x2)
  · skip
    refine s_run (b := [(.iload_n 1, 1), (.iload 4, 2)]) 39 [some (.inr (.inr x0)), some (.inl x1), some (.inr (.inl x2)), none, some (.inl x4), none, none] [.inl x4, .inl x1] (by decide +kernel) rfl ?_
    refine s_cS (Z := Y_X12_holds) (vs := [.inl x1, .inl x4]) (st := []) (rO := fun z => some (.inl z)) (mO := fun _ => M) zk_X12_holds q1599 q1598 ⟨by decide, by decide⟩ ⟨rfl, rfl⟩ rfl rfl (Nat.le_of_ble_eq_true rfl) (by decide +kernel) (fun z hz => c_X12_holds hz) (fun v3 => ?_)
    change Sim l G Y_X12_laysOut lim _ _ 42 [some (.inr (.inr x0)), some (.inl x1), some (.inr (.inl x2)), none, some (.inl x4), none, none] [.inl v3] M
    refine s_if_ne (tgt := 48) (off := 6) (by decide +kernel) (by decide) (fun h4 => ?_) (fun h4 => ?_)
    · skip
      refine s_run (b := [(.goto 32, 3), (.iinc 4 1, 3), (.goto (-53), 3)]) 27 [some (.inr (.inr x0)), some (.inl x1), some (.inr (.inl x2)), none, some (.inl (x4 + (1 : Int32))), none, none] [] (by decide +kernel) rfl ?_
      exact s_lsub (ls' := [some (.inr (.inr x0)), some (.inl x1), some (.inr (.inl x2)), none, some (.inl (x4 + (1 : Int32))), none, none]) ⟨rfl, ⟨rfl, ⟨rfl, ⟨rfl, trivial⟩⟩⟩⟩ (kk1 x2 (x4 + (1 : Int32)))
    · skip
      refine s_run (b := [(.aload_n 0, 1), (.iload_n 1, 1), (.iload 4, 2)]) 52 [some (.inr (.inr x0)), some (.inl x1), some (.inr (.inl x2)), none, some (.inl x4), none, none] [.inl x4, .inl x1, .inr (.inr x0)] (by decide +kernel) rfl ?_
      refine s_cV (Z := Y_X12_triesBy) (c := 12) (vs := [.inl x1, .inl x4]) (st := []) (rO := fun z => some (.inr (.inl z))) (mO := fun _ => M) zk_X12_triesBy zi_X12_triesBy q1723 rfl ⟨by decide, by decide⟩ ⟨rfl, rfl⟩ rfl rfl (Nat.le_of_ble_eq_true rfl) (by decide +kernel) (fun z hz => c_X12_triesBy hz) (fun v5 => ?_)
      change Sim l G Y_X12_laysOut lim _ _ 55 [some (.inr (.inr x0)), some (.inl x1), some (.inr (.inl x2)), none, some (.inl x4), none, none] [.inr (.inl v5)] M
      refine s_run (b := [(.lstore 5, 2), (.lload_n 2, 1), (.lconst 0, 1), (.lcmp, 1)]) 60 [some (.inr (.inr x0)), some (.inl x1), some (.inr (.inl x2)), none, some (.inl x4), some (.inr (.inl v5)), none] [.inl (lg_cmp x2 (0 : Int64))] (by decide +kernel) rfl ?_
      refine s_if_lt (tgt := 70) (off := 10) (by decide +kernel) (by decide) (fun h6 => ?_) (fun h6 => ?_)
      · skip
        refine s_run (b := [(.lload 5, 2), (.goto 4, 3), (.lstore_n 2, 1), (.iinc 4 1, 3), (.goto (-53), 3)]) 27 [some (.inr (.inr x0)), some (.inl x1), some (.inr (.inl v5)), none, some (.inl (x4 + (1 : Int32))), some (.inr (.inl v5)), none] [] (by decide +kernel) rfl ?_
        exact s_lsub (ls' := [some (.inr (.inr x0)), some (.inl x1), some (.inr (.inl v5)), none, some (.inl (x4 + (1 : Int32))), none, none]) ⟨rfl, ⟨rfl, ⟨rfl, ⟨rfl, trivial⟩⟩⟩⟩ (kk1 v5 (x4 + (1 : Int32)))
      · skip
        refine s_run (b := [(.lload 5, 2), (.lload_n 2, 1), (.lcmp, 1)]) 67 [some (.inr (.inr x0)), some (.inl x1), some (.inr (.inl x2)), none, some (.inl x4), some (.inr (.inl v5)), none] [.inl (lg_cmp v5 x2)] (by decide +kernel) rfl ?_
        refine s_if_ge (tgt := 75) (off := 8) (by decide +kernel) (by decide) (fun h7 => ?_) (fun h7 => ?_)
        · skip
          refine s_run (b := [(.lload_n 2, 1), (.lstore_n 2, 1), (.iinc 4 1, 3), (.goto (-53), 3)]) 27 [some (.inr (.inr x0)), some (.inl x1), some (.inr (.inl x2)), none, some (.inl (x4 + (1 : Int32))), some (.inr (.inl v5)), none] [] (by decide +kernel) rfl ?_
          exact s_lsub (ls' := [some (.inr (.inr x0)), some (.inl x1), some (.inr (.inl x2)), none, some (.inl (x4 + (1 : Int32))), none, none]) ⟨rfl, ⟨rfl, ⟨rfl, ⟨rfl, trivial⟩⟩⟩⟩ (kk1 x2 (x4 + (1 : Int32)))
        · skip
          refine s_run (b := [(.lload 5, 2), (.goto 4, 3), (.lstore_n 2, 1), (.iinc 4 1, 3), (.goto (-53), 3)]) 27 [some (.inr (.inr x0)), some (.inl x1), some (.inr (.inl v5)), none, some (.inl (x4 + (1 : Int32))), some (.inr (.inl v5)), none] [] (by decide +kernel) rfl ?_
          exact s_lsub (ls' := [some (.inr (.inr x0)), some (.inl x1), some (.inr (.inl v5)), none, some (.inl (x4 + (1 : Int32))), none, none]) ⟨rfl, ⟨rfl, ⟨rfl, ⟨rfl, trivial⟩⟩⟩⟩ (kk1 v5 (x4 + (1 : Int32)))
set_option maxRecDepth 20000 in
theorem L_X12_laysOut_27 {l : Launch} {G : Gv} {lim : Nat × Nat} (M : Mem) (x0 : Nat) (x1 : Int32) (x2 : Int64) (x4 : Int32) (K : ((Int64)) → Option (Option Value × Mem)) (kk2_0 : ∀ r : Int64, SimR l G Y_X12_laysOut lim (K r) 83 [some (.inr (.inr x0)), some (.inl x1), some (.inr (.inl r)), none, none, none, none] [] M) : Sim l G Y_X12_laysOut lim (f_X12_laysOut_L27 M x0 x1 x2 x4) K 27 [some (.inr (.inr x0)), some (.inl x1), some (.inr (.inl x2)), none, some (.inl x4), none, none] [] M :=
  s_iter (f := fun s : Int64 × Int32 => f_X12_laysOut_B27 M x0 x1 s.1 s.2) (hd := 27) (cl := fun s => [some (.inr (.inr x0)), some (.inl x1), some (.inr (.inl s.1)), none, some (.inl s.2), none, none]) (cm := fun s => M) (xp := fun _ => 83) (xl := fun r => [some (.inr (.inr x0)), some (.inl x1), some (.inr (.inl r)), none, none, none, none]) (xm := fun r => M) (fun s K h1 h2 => B_X12_laysOut_27 M x0 x1 s.1 s.2 K (fun a2 a4 => h1 (a2, a4)) (fun a2 => h2 a2)) 1048576 (x2, x4) K kk2_0
def f_X12_laysOut_B2 (M : Mem) (x0 : Nat) (x1 : Int32) : Option ((Int32 × Mem) ⊕ ((Mem))) :=
  (gI M 12 x0 12).bind fun v1 =>
  (if ((1 : Int32) <<< (v1 &&& 31)) ≤ x1 then
    some (.inr M)
  else
    (if x1 = 0 then
      (f_X12_laysOut_L27 M x0 x1 (0 : Int64) (0 : Int32)).bind fun r4 =>
      (gR M 12 x0 34).bind fun v5 =>
      (sL M v5 x1 r4).bind fun M6 =>
      some (.inl ((x1 + (1 : Int32)), M6))
    else
      (f_X12_laysOut_L27 M x0 x1 (-1 : Int64) (0 : Int32)).bind fun r7 =>
      (gR M 12 x0 34).bind fun v8 =>
      (sL M v8 x1 r7).bind fun M9 =>
      some (.inl ((x1 + (1 : Int32)), M9))))
def f_X12_laysOut_L2 (M : Mem) (x0 : Nat) (x1 : Int32) : Option ((Mem)) := iter (fun s : Int32 × Mem => f_X12_laysOut_B2 s.2 x0 s.1) 1048576 (x1, M)
set_option maxRecDepth 20000 in
theorem B_X12_laysOut_2 {l : Launch} {G : Gv} {lim : Nat × Nat} (M : Mem) (x0 : Nat) (x1 : Int32) (K : (Int32 × Mem) ⊕ ((Mem)) → Option (Option Value × Mem)) (kk1 : ∀ (s1 : Int32) (s_ : Mem), SimR l G Y_X12_laysOut lim (K (.inl (s1, s_))) 2 [some (.inr (.inr x0)), some (.inl s1), none, none, none, none, none] [] s_) (kk2_0 : ∀ (s_ : Mem), SimR l G Y_X12_laysOut lim (K (.inr s_)) 96 [none, none, none, none, none, none, none] [] s_) : Sim l G Y_X12_laysOut lim (f_X12_laysOut_B2 M x0 x1) K 2 [some (.inr (.inr x0)), some (.inl x1), none, none, none, none, none] [] M := by
  unfold f_X12_laysOut_B2
  refine s_run (b := [(.iload_n 1, 1), (.iconst 1, 1), (.aload_n 0, 1)]) 5 [some (.inr (.inr x0)), some (.inl x1), none, none, none, none, none] [.inr (.inr x0), .inl (1 : Int32), .inl x1] (by decide +kernel) rfl ?_
  refine s_gI fl_12_162 rfl (by decide +kernel) (fun v1 => ?_)
  refine s_run (b := [(.ishl, 1)]) 9 [some (.inr (.inr x0)), some (.inl x1), none, none, none, none, none] [.inl ((1 : Int32) <<< (v1 &&& 31)), .inl x1] (by decide +kernel) rfl ?_
  refine s_ic_ge (tgt := 96) (off := 87) (by decide +kernel) (by decide) (fun h2 => ?_) (fun h2 => ?_)
  · skip
    exact s_lsub (ls' := [none, none, none, none, none, none, none]) trivial (kk2_0 M)
  · skip
    refine s_run (b := [(.iload_n 1, 1)]) 13 [some (.inr (.inr x0)), some (.inl x1), none, none, none, none, none] [.inl x1] (by decide +kernel) rfl ?_
    refine s_if_ne (tgt := 20) (off := 7) (by decide +kernel) (by decide) (fun h3 => ?_) (fun h3 => ?_)
    · skip
      refine s_run (b := [(.lconst 0, 1), (.goto 6, 3), (.lstore_n 2, 1), (.iconst 0, 1), (.istore 4, 2)]) 27 [some (.inr (.inr x0)), some (.inl x1), some (.inr (.inl (0 : Int64))), none, some (.inl (0 : Int32)), none, none] [] (by decide +kernel) rfl ?_
      refine s_lsub (ls' := [some (.inr (.inr x0)), some (.inl x1), some (.inr (.inl (0 : Int64))), none, some (.inl (0 : Int32)), none, none]) ⟨rfl, ⟨rfl, ⟨rfl, ⟨rfl, trivial⟩⟩⟩⟩ ?_
      refine sim_bind (L_X12_laysOut_27 M x0 x1 (0 : Int64) (0 : Int32) _ (fun r4 => ?_))
      change Sim l G Y_X12_laysOut lim _ _ 83 [some (.inr (.inr x0)), some (.inl x1), some (.inr (.inl r4)), none, none, none, none] [] M
      refine s_run (b := [(.aload_n 0, 1)]) 84 [some (.inr (.inr x0)), some (.inl x1), some (.inr (.inl r4)), none, none, none, none] [.inr (.inr x0)] (by decide +kernel) rfl ?_
      refine s_gR fl_12_35 rfl (by decide +kernel) (fun v5 => ?_)
      refine s_run (b := [(.iload_n 1, 1), (.lload_n 2, 1)]) 89 [some (.inr (.inr x0)), some (.inl x1), some (.inr (.inl r4)), none, none, none, none] [.inr (.inl r4), .inl x1, .inr (.inr v5)] (by decide +kernel) rfl ?_
      refine s_ls (by decide +kernel) (fun M6 => ?_)
      refine s_run (b := [(.iinc 1 1, 3), (.goto (-91), 3)]) 2 [some (.inr (.inr x0)), some (.inl (x1 + (1 : Int32))), some (.inr (.inl r4)), none, none, none, none] [] (by decide +kernel) rfl ?_
      exact s_lsub (ls' := [some (.inr (.inr x0)), some (.inl (x1 + (1 : Int32))), none, none, none, none, none]) ⟨rfl, ⟨rfl, trivial⟩⟩ (kk1 (x1 + (1 : Int32)) M6)
    · skip
      refine s_ldc2 q1660 (by decide +kernel) ?_
      change Sim l G Y_X12_laysOut lim _ _ 23 [some (.inr (.inr x0)), some (.inl x1), none, none, none, none, none] [.inr (.inl (-1 : Int64))] M
      refine s_run (b := [(.lstore_n 2, 1), (.iconst 0, 1), (.istore 4, 2)]) 27 [some (.inr (.inr x0)), some (.inl x1), some (.inr (.inl (-1 : Int64))), none, some (.inl (0 : Int32)), none, none] [] (by decide +kernel) rfl ?_
      refine s_lsub (ls' := [some (.inr (.inr x0)), some (.inl x1), some (.inr (.inl (-1 : Int64))), none, some (.inl (0 : Int32)), none, none]) ⟨rfl, ⟨rfl, ⟨rfl, ⟨rfl, trivial⟩⟩⟩⟩ ?_
      refine sim_bind (L_X12_laysOut_27 M x0 x1 (-1 : Int64) (0 : Int32) _ (fun r7 => ?_))
      change Sim l G Y_X12_laysOut lim _ _ 83 [some (.inr (.inr x0)), some (.inl x1), some (.inr (.inl r7)), none, none, none, none] [] M
      refine s_run (b := [(.aload_n 0, 1)]) 84 [some (.inr (.inr x0)), some (.inl x1), some (.inr (.inl r7)), none, none, none, none] [.inr (.inr x0)] (by decide +kernel) rfl ?_
      refine s_gR fl_12_35 rfl (by decide +kernel) (fun v8 => ?_)
      refine s_run (b := [(.iload_n 1, 1), (.lload_n 2, 1)]) 89 [some (.inr (.inr x0)), some (.inl x1), some (.inr (.inl r7)), none, none, none, none] [.inr (.inl r7), .inl x1, .inr (.inr v8)] (by decide +kernel) rfl ?_
      refine s_ls (by decide +kernel) (fun M9 => ?_)
      refine s_run (b := [(.iinc 1 1, 3), (.goto (-91), 3)]) 2 [some (.inr (.inr x0)), some (.inl (x1 + (1 : Int32))), some (.inr (.inl r7)), none, none, none, none] [] (by decide +kernel) rfl ?_
      exact s_lsub (ls' := [some (.inr (.inr x0)), some (.inl (x1 + (1 : Int32))), none, none, none, none, none]) ⟨rfl, ⟨rfl, trivial⟩⟩ (kk1 (x1 + (1 : Int32)) M9)
set_option maxRecDepth 20000 in
theorem L_X12_laysOut_2 {l : Launch} {G : Gv} {lim : Nat × Nat} (M : Mem) (x0 : Nat) (x1 : Int32) (K : ((Mem)) → Option (Option Value × Mem)) (kk2_0 : ∀ r : Mem, SimR l G Y_X12_laysOut lim (K r) 96 [none, none, none, none, none, none, none] [] r) : Sim l G Y_X12_laysOut lim (f_X12_laysOut_L2 M x0 x1) K 2 [some (.inr (.inr x0)), some (.inl x1), none, none, none, none, none] [] M :=
  s_iter (f := fun s : Int32 × Mem => f_X12_laysOut_B2 s.2 x0 s.1) (hd := 2) (cl := fun s => [some (.inr (.inr x0)), some (.inl s.1), none, none, none, none, none]) (cm := fun s => s.2) (xp := fun _ => 96) (xl := fun r => [none, none, none, none, none, none, none]) (xm := fun r => r) (fun s K h1 h2 => B_X12_laysOut_2 s.2 x0 s.1 K (fun a1 a_ => h1 (a1, a_)) (fun a_ => h2 a_)) 1048576 (x1, M) K kk2_0
def f_X12_laysOut (M : Mem) (x0 : Nat) : Option (Mem) :=
  (f_X12_laysOut_L2 M x0 (0 : Int32)).bind fun r1 =>
  some r1
set_option maxRecDepth 20000 in
theorem S_X12_laysOut {l : Launch} {G : Gv} {lim : Nat × Nat} (M : Mem) (x0 : Nat) : Sim l G Y_X12_laysOut lim (f_X12_laysOut M x0) (fun z => some (none, z)) 0 [some (.inr (.inr x0)), none, none, none, none, none, none] [] M := by
  unfold f_X12_laysOut
  refine s_run (b := [(.iconst 0, 1), (.istore_n 1, 1)]) 2 [some (.inr (.inr x0)), some (.inl (0 : Int32)), none, none, none, none, none] [] (by decide +kernel) rfl ?_
  refine s_lsub (ls' := [some (.inr (.inr x0)), some (.inl (0 : Int32)), none, none, none, none, none]) ⟨rfl, ⟨rfl, trivial⟩⟩ ?_
  refine sim_bind (L_X12_laysOut_2 M x0 (0 : Int32) _ (fun r1 => ?_))
  change Sim l G Y_X12_laysOut lim _ _ 96 [none, none, none, none, none, none, none] [] r1
  exact s_vret (by decide +kernel) rfl
set_option maxRecDepth 20000 in
theorem c_X12_laysOut {l : Launch} {G : Gv} {M : Mem} {x0 : Nat} {z : Mem} (h : f_X12_laysOut M x0 = some z) : MetS l G Y_X12_laysOut [.inr (.inr x0)] M none z :=
  met_of (ls0 := [some (.inr (.inr x0)), none, none, none, none, none, none]) (by decide) rfl (lv_in (m := 6) rfl) (sl_le (Nat.le_of_ble_eq_true rfl)) (by rw [h]; rfl) (Or.inl ⟨rfl, rfl⟩) (S_X12_laysOut M x0)
def f_X12_nextOf_B2 (M : Mem) (x0 : Nat) (x1 : Int32) (x2 : Int32) (x3 : Int32) : Option ((Int32) ⊕ ((Int32) ⊕ (Unit))) :=
  (gI M 12 x0 12).bind fun v1 =>
  (if v1 ≤ x3 then
    some (.inr (.inr ()))
  else
    (f_X12_holds M x1 x3).bind fun v3 =>
    (if v3 = 0 then
      some (.inl (x3 + (1 : Int32)))
    else
      (if x2 = 0 then
        (ob M 12 x0).bind fun _ => (f_X12_triesBy M x0 x1 x3).bind fun v6 =>
        (gR M 12 x0 34).bind fun v7 =>
        (aL M v7 x1).bind fun v8 =>
        (if (lg_cmp v6 v8) = 0 then
          some (.inr (.inl x3))
        else
          some (.inl (x3 + (1 : Int32))))
      else
        some (.inr (.inl x3)))))
def f_X12_nextOf_L2 (M : Mem) (x0 : Nat) (x1 : Int32) (x2 : Int32) (x3 : Int32) : Option ((Int32) ⊕ (Unit)) := iter (fun s : Int32 => f_X12_nextOf_B2 M x0 x1 x2 s) 1048576 x3
set_option maxRecDepth 20000 in
theorem B_X12_nextOf_2 {l : Launch} {G : Gv} {lim : Nat × Nat} (M : Mem) (x0 : Nat) (x1 : Int32) (x2 : Int32) (x3 : Int32) (K : (Int32) ⊕ ((Int32) ⊕ (Unit)) → Option (Option Value × Mem)) (kk1 : ∀ (s3 : Int32), SimR l G Y_X12_nextOf lim (K (.inl s3)) 2 [some (.inr (.inr x0)), some (.inl x1), some (.inl x2), some (.inl s3)] [] M) (kk2_0 : ∀ (s3 : Int32), SimR l G Y_X12_nextOf lim (K (.inr (.inl s3))) 38 [none, none, none, some (.inl s3)] [] M) (kk2_1 : SimR l G Y_X12_nextOf lim (K (.inr (.inr ()))) 46 [none, none, none, none] [] M) : Sim l G Y_X12_nextOf lim (f_X12_nextOf_B2 M x0 x1 x2 x3) K 2 [some (.inr (.inr x0)), some (.inl x1), some (.inl x2), some (.inl x3)] [] M := by
  unfold f_X12_nextOf_B2
  refine s_run (b := [(.iload_n 3, 1), (.aload_n 0, 1)]) 4 [some (.inr (.inr x0)), some (.inl x1), some (.inl x2), some (.inl x3)] [.inr (.inr x0), .inl x3] (by decide +kernel) rfl ?_
  refine s_gI fl_12_162 rfl (by decide +kernel) (fun v1 => ?_)
  refine s_ic_ge (tgt := 46) (off := 39) (by decide +kernel) (by decide) (fun h2 => ?_) (fun h2 => ?_)
  · skip
    exact s_lsub (ls' := [none, none, none, none]) trivial (kk2_1 )
  · skip
    refine s_run (b := [(.iload_n 1, 1), (.iload_n 3, 1)]) 12 [some (.inr (.inr x0)), some (.inl x1), some (.inl x2), some (.inl x3)] [.inl x3, .inl x1] (by decide +kernel) rfl ?_
    refine s_cS (Z := Y_X12_holds) (vs := [.inl x1, .inl x3]) (st := []) (rO := fun z => some (.inl z)) (mO := fun _ => M) zk_X12_holds q1599 q1598 ⟨by decide, by decide⟩ ⟨rfl, rfl⟩ rfl rfl (Nat.le_of_ble_eq_true rfl) (by decide +kernel) (fun z hz => c_X12_holds hz) (fun v3 => ?_)
    change Sim l G Y_X12_nextOf lim _ _ 15 [some (.inr (.inr x0)), some (.inl x1), some (.inl x2), some (.inl x3)] [.inl v3] M
    refine s_if_eq (tgt := 40) (off := 25) (by decide +kernel) (by decide) (fun h4 => ?_) (fun h4 => ?_)
    · skip
      refine s_run (b := [(.iinc 3 1, 3), (.goto (-41), 3)]) 2 [some (.inr (.inr x0)), some (.inl x1), some (.inl x2), some (.inl (x3 + (1 : Int32)))] [] (by decide +kernel) rfl ?_
      exact s_lsub (ls' := [some (.inr (.inr x0)), some (.inl x1), some (.inl x2), some (.inl (x3 + (1 : Int32)))]) ⟨rfl, ⟨rfl, ⟨rfl, ⟨rfl, trivial⟩⟩⟩⟩ (kk1 (x3 + (1 : Int32)))
    · skip
      refine s_run (b := [(.iload_n 2, 1)]) 19 [some (.inr (.inr x0)), some (.inl x1), some (.inl x2), some (.inl x3)] [.inl x2] (by decide +kernel) rfl ?_
      refine s_if_ne (tgt := 38) (off := 19) (by decide +kernel) (by decide) (fun h5 => ?_) (fun h5 => ?_)
      · skip
        refine s_run (b := [(.aload_n 0, 1), (.iload_n 1, 1), (.iload_n 3, 1)]) 25 [some (.inr (.inr x0)), some (.inl x1), some (.inl x2), some (.inl x3)] [.inl x3, .inl x1, .inr (.inr x0)] (by decide +kernel) rfl ?_
        refine s_cV (Z := Y_X12_triesBy) (c := 12) (vs := [.inl x1, .inl x3]) (st := []) (rO := fun z => some (.inr (.inl z))) (mO := fun _ => M) zk_X12_triesBy zi_X12_triesBy q1723 rfl ⟨by decide, by decide⟩ ⟨rfl, rfl⟩ rfl rfl (Nat.le_of_ble_eq_true rfl) (by decide +kernel) (fun z hz => c_X12_triesBy hz) (fun v6 => ?_)
        change Sim l G Y_X12_nextOf lim _ _ 28 [some (.inr (.inr x0)), some (.inl x1), some (.inl x2), some (.inl x3)] [.inr (.inl v6)] M
        refine s_run (b := [(.aload_n 0, 1)]) 29 [some (.inr (.inr x0)), some (.inl x1), some (.inl x2), some (.inl x3)] [.inr (.inr x0), .inr (.inl v6)] (by decide +kernel) rfl ?_
        refine s_gR fl_12_35 rfl (by decide +kernel) (fun v7 => ?_)
        refine s_run (b := [(.iload_n 1, 1)]) 33 [some (.inr (.inr x0)), some (.inl x1), some (.inl x2), some (.inl x3)] [.inl x1, .inr (.inr v7), .inr (.inl v6)] (by decide +kernel) rfl ?_
        refine s_la (by decide +kernel) (fun v8 => ?_)
        refine s_run (b := [(.lcmp, 1)]) 35 [some (.inr (.inr x0)), some (.inl x1), some (.inl x2), some (.inl x3)] [.inl (lg_cmp v6 v8)] (by decide +kernel) rfl ?_
        refine s_if_ne (tgt := 40) (off := 5) (by decide +kernel) (by decide) (fun h9 => ?_) (fun h9 => ?_)
        · skip
          exact s_lsub (ls' := [none, none, none, some (.inl x3)]) ⟨rfl, trivial⟩ (kk2_0 x3)
        · skip
          refine s_run (b := [(.iinc 3 1, 3), (.goto (-41), 3)]) 2 [some (.inr (.inr x0)), some (.inl x1), some (.inl x2), some (.inl (x3 + (1 : Int32)))] [] (by decide +kernel) rfl ?_
          exact s_lsub (ls' := [some (.inr (.inr x0)), some (.inl x1), some (.inl x2), some (.inl (x3 + (1 : Int32)))]) ⟨rfl, ⟨rfl, ⟨rfl, ⟨rfl, trivial⟩⟩⟩⟩ (kk1 (x3 + (1 : Int32)))
      · skip
        exact s_lsub (ls' := [none, none, none, some (.inl x3)]) ⟨rfl, trivial⟩ (kk2_0 x3)
set_option maxRecDepth 20000 in
theorem L_X12_nextOf_2 {l : Launch} {G : Gv} {lim : Nat × Nat} (M : Mem) (x0 : Nat) (x1 : Int32) (x2 : Int32) (x3 : Int32) (K : ((Int32) ⊕ (Unit)) → Option (Option Value × Mem)) (kk2_0 : ∀ r : Int32, SimR l G Y_X12_nextOf lim (K (.inl r)) 38 [none, none, none, some (.inl r)] [] M) (kk2_1 : ∀ r : Unit, SimR l G Y_X12_nextOf lim (K (.inr r)) 46 [none, none, none, none] [] M) : Sim l G Y_X12_nextOf lim (f_X12_nextOf_L2 M x0 x1 x2 x3) K 2 [some (.inr (.inr x0)), some (.inl x1), some (.inl x2), some (.inl x3)] [] M :=
  s_iter (f := fun s : Int32 => f_X12_nextOf_B2 M x0 x1 x2 s) (hd := 2) (cl := fun s => [some (.inr (.inr x0)), some (.inl x1), some (.inl x2), some (.inl s)]) (cm := fun s => M) (xp := (fun r => match r with | .inl r => 38 | .inr r => 46)) (xl := (fun r => match r with | .inl r => [none, none, none, some (.inl r)] | .inr r => [none, none, none, none])) (xm := (fun r => match r with | .inl r => M | .inr r => M)) (fun s K h1 h2 => B_X12_nextOf_2 M x0 x1 x2 s K (fun a3 => h1 a3) (fun a3 => h2 (.inl a3)) (h2 (.inr ()))) 1048576 x3 K (fun r => by
    rcases r with r | r
    · exact kk2_0 r
    · exact kk2_1 r)
def f_X12_nextOf (M : Mem) (x0 : Nat) (x1 : Int32) (x2 : Int32) : Option (Int32) :=
  ((f_X12_nextOf_L2 M x0 x1 x2 (0 : Int32)).bind fun r1 => match r1 with
  | .inl r1 => some r1
  | .inr r1 => some (-1 : Int32))
set_option maxRecDepth 20000 in
theorem S_X12_nextOf {l : Launch} {G : Gv} {lim : Nat × Nat} (M : Mem) (x0 : Nat) (x1 : Int32) (x2 : Int32) : Sim l G Y_X12_nextOf lim (f_X12_nextOf M x0 x1 x2) (fun z => some (some (.int z), M)) 0 [some (.inr (.inr x0)), some (.inl x1), some (.inl x2), none] [] M := by
  unfold f_X12_nextOf
  refine s_run (b := [(.iconst 0, 1), (.istore_n 3, 1)]) 2 [some (.inr (.inr x0)), some (.inl x1), some (.inl x2), some (.inl (0 : Int32))] [] (by decide +kernel) rfl ?_
  refine s_lsub (ls' := [some (.inr (.inr x0)), some (.inl x1), some (.inl x2), some (.inl (0 : Int32))]) ⟨rfl, ⟨rfl, ⟨rfl, ⟨rfl, trivial⟩⟩⟩⟩ ?_
  refine sim_bind (L_X12_nextOf_2 M x0 x1 x2 (0 : Int32) _ (fun r1 => ?_) (fun r1 => ?_))
  · change Sim l G Y_X12_nextOf lim _ _ 38 [none, none, none, some (.inl r1)] [] M
    refine s_run (b := [(.iload_n 3, 1)]) 39 [none, none, none, some (.inl r1)] [.inl r1] (by decide +kernel) rfl ?_
    exact s_iret (by decide +kernel) rfl
  · change Sim l G Y_X12_nextOf lim _ _ 46 [none, none, none, none] [] M
    refine s_run (b := [(.iconst (-1), 1)]) 47 [none, none, none, none] [.inl (-1 : Int32)] (by decide +kernel) rfl ?_
    exact s_iret (by decide +kernel) rfl
set_option maxRecDepth 20000 in
theorem c_X12_nextOf {l : Launch} {G : Gv} {M : Mem} {x0 : Nat} {x1 : Int32} {x2 : Int32} {z : Int32} (h : f_X12_nextOf M x0 x1 x2 = some z) : MetS l G Y_X12_nextOf [.inr (.inr x0), .inl x1, .inl x2] M (some (.int z)) M :=
  met_of (ls0 := [some (.inr (.inr x0)), some (.inl x1), some (.inl x2), none]) (by decide) rfl (lv_in (m := 1) rfl) (sl_le (Nat.le_of_ble_eq_true rfl)) (by rw [h]; rfl) (Or.inl ⟨rfl, rfl⟩) (S_X12_nextOf M x0 x1 x2)
def f_X12_button_J23 (M : Mem)   : Option (Int64 × Mem) :=
  some ((-1 : Int64), M)
set_option maxRecDepth 20000 in
theorem J_X12_button_23 {l : Launch} {G : Gv} {lim : Nat × Nat} (M : Mem)    : Sim l G Y_X12_button lim (f_X12_button_J23 M ) (fun z => some (some (.long z.1), z.2)) 23 [none, none, none, none, none, none, none] [] M := by
  unfold f_X12_button_J23
  refine s_ldc2 q1660 (by decide +kernel) ?_
  change Sim l G Y_X12_button lim _ _ 26 [none, none, none, none, none, none, none] [.inr (.inl (-1 : Int64))] M
  exact s_lret (by decide +kernel) rfl
def f_X12_button_J113 (M : Mem) (x0 : Nat) (x2 : Int32) (x3 : Int32) (x5 : Int32) (x6 : Int32)  : Option ((Int32 × Int32 × Int32 × Int32) ⊕ ((Int32))) :=
  some (.inl ((x3 &&& (((1 : Int32) <<< (x5 &&& 31)) ^^^ (-1 : Int32))), (1 : Int32), x5, (x6 + (1 : Int32))))
set_option maxRecDepth 20000 in
theorem J_X12_button_113 {l : Launch} {G : Gv} {lim : Nat × Nat} (M : Mem) (x0 : Nat) (x2 : Int32) (x3 : Int32) (x5 : Int32) (x6 : Int32)  (K : (Int32 × Int32 × Int32 × Int32) ⊕ ((Int32)) → Option (Option Value × Mem)) (kk1 : ∀ (s3 : Int32) (s4 : Int32) (s5 : Int32) (s6 : Int32), SimR l G Y_X12_button lim (K (.inl (s3, s4, s5, s6))) 81 [some (.inr (.inr x0)), none, some (.inl x2), some (.inl s3), some (.inl s4), some (.inl s5), some (.inl s6)] [] M) (kk2_0 : ∀ (s5 : Int32), SimR l G Y_X12_button lim (K (.inr s5)) 135 [none, none, none, none, none, some (.inl s5), none] [] M) : Sim l G Y_X12_button lim (f_X12_button_J113 M x0 x2 x3 x5 x6) K 113 [some (.inr (.inr x0)), none, some (.inl x2), some (.inl x3), none, some (.inl x5), some (.inl x6)] [] M := by
  unfold f_X12_button_J113
  refine s_run (b := [(.iconst 1, 1), (.goto 4, 3), (.istore 4, 2), (.iload_n 3, 1), (.iconst 1, 1), (.iload 5, 2), (.ishl, 1), (.iconst (-1), 1), (.ixor, 1), (.iand, 1), (.istore_n 3, 1), (.iinc 6 1, 3), (.goto (-51), 3)]) 81 [some (.inr (.inr x0)), none, some (.inl x2), some (.inl (x3 &&& (((1 : Int32) <<< (x5 &&& 31)) ^^^ (-1 : Int32)))), some (.inl (1 : Int32)), some (.inl x5), some (.inl (x6 + (1 : Int32)))] [] (by decide +kernel) rfl ?_
  exact s_lsub (ls' := [some (.inr (.inr x0)), none, some (.inl x2), some (.inl (x3 &&& (((1 : Int32) <<< (x5 &&& 31)) ^^^ (-1 : Int32)))), some (.inl (1 : Int32)), some (.inl x5), some (.inl (x6 + (1 : Int32)))]) ⟨rfl, ⟨rfl, ⟨rfl, ⟨rfl, ⟨rfl, ⟨rfl, trivial⟩⟩⟩⟩⟩⟩ (kk1 (x3 &&& (((1 : Int32) <<< (x5 &&& 31)) ^^^ (-1 : Int32))) (1 : Int32) x5 (x6 + (1 : Int32)))
def f_X12_button_B81 (M : Mem) (x0 : Nat) (x2 : Int32) (x3 : Int32) (x4 : Int32) (x5 : Int32) (x6 : Int32) : Option ((Int32 × Int32 × Int32 × Int32) ⊕ ((Int32))) :=
  (if x2 < x6 then
    some (.inr x5)
  else
    (ob M 12 x0).bind fun _ => (f_X12_nextOf M x0 x3 x4).bind fun v2 =>
    (if x4 = 0 then
      (ob M 12 x0).bind fun _ => (f_X12_of M x0 v2 (4 : Int32)).bind fun v4 =>
      (if v4 = (10 : Int32) then
        f_X12_button_J113 M x0 x2 x3 v2 x6 
      else
        some (.inl ((x3 &&& (((1 : Int32) <<< (v2 &&& 31)) ^^^ (-1 : Int32))), (0 : Int32), v2, (x6 + (1 : Int32)))))
    else
      f_X12_button_J113 M x0 x2 x3 v2 x6 ))
def f_X12_button_L81 (M : Mem) (x0 : Nat) (x2 : Int32) (x3 : Int32) (x4 : Int32) (x5 : Int32) (x6 : Int32) : Option ((Int32)) := iter (fun s : Int32 × Int32 × Int32 × Int32 => f_X12_button_B81 M x0 x2 s.1 s.2.1 s.2.2.1 s.2.2.2) 1048576 (x3, x4, x5, x6)
set_option maxRecDepth 20000 in
theorem B_X12_button_81 {l : Launch} {G : Gv} {lim : Nat × Nat} (M : Mem) (x0 : Nat) (x2 : Int32) (x3 : Int32) (x4 : Int32) (x5 : Int32) (x6 : Int32) (K : (Int32 × Int32 × Int32 × Int32) ⊕ ((Int32)) → Option (Option Value × Mem)) (kk1 : ∀ (s3 : Int32) (s4 : Int32) (s5 : Int32) (s6 : Int32), SimR l G Y_X12_button lim (K (.inl (s3, s4, s5, s6))) 81 [some (.inr (.inr x0)), none, some (.inl x2), some (.inl s3), some (.inl s4), some (.inl s5), some (.inl s6)] [] M) (kk2_0 : ∀ (s5 : Int32), SimR l G Y_X12_button lim (K (.inr s5)) 135 [none, none, none, none, none, some (.inl s5), none] [] M) : Sim l G Y_X12_button lim (f_X12_button_B81 M x0 x2 x3 x4 x5 x6) K 81 [some (.inr (.inr x0)), none, some (.inl x2), some (.inl x3), some (.inl x4), some (.inl x5), some (.inl x6)] [] M := by
  unfold f_X12_button_B81
  refine s_run (b := [(.iload 6, 2), (.iload_n 2, 1)]) 84 [some (.inr (.inr x0)), none, some (.inl x2), some (.inl x3), some (.inl x4), some (.inl x5), some (.inl x6)] [.inl x2, .inl x6] (by decide +kernel) rfl ?_
  refine s_ic_gt (tgt := 135) (off := 51) (by decide +kernel) (by decide) (fun h1 => ?_) (fun h1 => ?_)
  · skip
    exact s_lsub (ls' := [none, none, none, none, none, some (.inl x5), none]) ⟨rfl, trivial⟩ (kk2_0 x5)
  · skip
    refine s_run (b := [(.aload_n 0, 1), (.iload_n 3, 1), (.iload 4, 2)]) 91 [some (.inr (.inr x0)), none, some (.inl x2), some (.inl x3), some (.inl x4), some (.inl x5), some (.inl x6)] [.inl x4, .inl x3, .inr (.inr x0)] (by decide +kernel) rfl ?_
    refine s_cV (Z := Y_X12_nextOf) (c := 12) (vs := [.inl x3, .inl x4]) (st := []) (rO := fun z => some (.inl z)) (mO := fun _ => M) zk_X12_nextOf zi_X12_nextOf q1727 rfl ⟨by decide, by decide⟩ ⟨rfl, rfl⟩ rfl rfl (Nat.le_of_ble_eq_true rfl) (by decide +kernel) (fun z hz => c_X12_nextOf hz) (fun v2 => ?_)
    change Sim l G Y_X12_button lim _ _ 94 [some (.inr (.inr x0)), none, some (.inl x2), some (.inl x3), some (.inl x4), some (.inl x5), some (.inl x6)] [.inl v2] M
    refine s_run (b := [(.istore 5, 2), (.iload 4, 2)]) 98 [some (.inr (.inr x0)), none, some (.inl x2), some (.inl x3), some (.inl x4), some (.inl v2), some (.inl x6)] [.inl x4] (by decide +kernel) rfl ?_
    refine s_if_ne (tgt := 113) (off := 15) (by decide +kernel) (by decide) (fun h3 => ?_) (fun h3 => ?_)
    · skip
      refine s_run (b := [(.aload_n 0, 1), (.iload 5, 2), (.iconst 4, 1)]) 105 [some (.inr (.inr x0)), none, some (.inl x2), some (.inl x3), some (.inl x4), some (.inl v2), some (.inl x6)] [.inl (4 : Int32), .inl v2, .inr (.inr x0)] (by decide +kernel) rfl ?_
      refine s_cV (Z := Y_X12_of) (c := 12) (vs := [.inl v2, .inl (4 : Int32)]) (st := []) (rO := fun z => some (.inl z)) (mO := fun _ => M) zk_X12_of zi_X12_of q1558 rfl ⟨by decide, by decide⟩ ⟨rfl, rfl⟩ rfl rfl (Nat.le_of_ble_eq_true rfl) (by decide +kernel) (fun z hz => c_X12_of hz) (fun v4 => ?_)
      change Sim l G Y_X12_button lim _ _ 108 [some (.inr (.inr x0)), none, some (.inl x2), some (.inl x3), some (.inl x4), some (.inl v2), some (.inl x6)] [.inl v4] M
      refine s_run (b := [(.bipush 10, 2)]) 110 [some (.inr (.inr x0)), none, some (.inl x2), some (.inl x3), some (.inl x4), some (.inl v2), some (.inl x6)] [.inl (10 : Int32), .inl v4] (by decide +kernel) rfl ?_
      refine s_ic_ne (tgt := 117) (off := 7) (by decide +kernel) (by decide) (fun h5 => ?_) (fun h5 => ?_)
      · skip
        exact s_lsub (ls' := [some (.inr (.inr x0)), none, some (.inl x2), some (.inl x3), none, some (.inl v2), some (.inl x6)]) ⟨rfl, ⟨rfl, ⟨rfl, ⟨rfl, ⟨rfl, trivial⟩⟩⟩⟩⟩ (J_X12_button_113 M x0 x2 x3 v2 x6  K kk1 kk2_0)
      · skip
        refine s_run (b := [(.iconst 0, 1), (.istore 4, 2), (.iload_n 3, 1), (.iconst 1, 1), (.iload 5, 2), (.ishl, 1), (.iconst (-1), 1), (.ixor, 1), (.iand, 1), (.istore_n 3, 1), (.iinc 6 1, 3), (.goto (-51), 3)]) 81 [some (.inr (.inr x0)), none, some (.inl x2), some (.inl (x3 &&& (((1 : Int32) <<< (v2 &&& 31)) ^^^ (-1 : Int32)))), some (.inl (0 : Int32)), some (.inl v2), some (.inl (x6 + (1 : Int32)))] [] (by decide +kernel) rfl ?_
        exact s_lsub (ls' := [some (.inr (.inr x0)), none, some (.inl x2), some (.inl (x3 &&& (((1 : Int32) <<< (v2 &&& 31)) ^^^ (-1 : Int32)))), some (.inl (0 : Int32)), some (.inl v2), some (.inl (x6 + (1 : Int32)))]) ⟨rfl, ⟨rfl, ⟨rfl, ⟨rfl, ⟨rfl, ⟨rfl, trivial⟩⟩⟩⟩⟩⟩ (kk1 (x3 &&& (((1 : Int32) <<< (v2 &&& 31)) ^^^ (-1 : Int32))) (0 : Int32) v2 (x6 + (1 : Int32)))
    · skip
      exact s_lsub (ls' := [some (.inr (.inr x0)), none, some (.inl x2), some (.inl x3), none, some (.inl v2), some (.inl x6)]) ⟨rfl, ⟨rfl, ⟨rfl, ⟨rfl, ⟨rfl, trivial⟩⟩⟩⟩⟩ (J_X12_button_113 M x0 x2 x3 v2 x6  K kk1 kk2_0)
set_option maxRecDepth 20000 in
theorem L_X12_button_81 {l : Launch} {G : Gv} {lim : Nat × Nat} (M : Mem) (x0 : Nat) (x2 : Int32) (x3 : Int32) (x4 : Int32) (x5 : Int32) (x6 : Int32) (K : ((Int32)) → Option (Option Value × Mem)) (kk2_0 : ∀ r : Int32, SimR l G Y_X12_button lim (K r) 135 [none, none, none, none, none, some (.inl r), none] [] M) : Sim l G Y_X12_button lim (f_X12_button_L81 M x0 x2 x3 x4 x5 x6) K 81 [some (.inr (.inr x0)), none, some (.inl x2), some (.inl x3), some (.inl x4), some (.inl x5), some (.inl x6)] [] M :=
  s_iter (f := fun s : Int32 × Int32 × Int32 × Int32 => f_X12_button_B81 M x0 x2 s.1 s.2.1 s.2.2.1 s.2.2.2) (hd := 81) (cl := fun s => [some (.inr (.inr x0)), none, some (.inl x2), some (.inl s.1), some (.inl s.2.1), some (.inl s.2.2.1), some (.inl s.2.2.2)]) (cm := fun s => M) (xp := fun _ => 135) (xl := fun r => [none, none, none, none, none, some (.inl r), none]) (xm := fun r => M) (fun s K h1 h2 => B_X12_button_81 M x0 x2 s.1 s.2.1 s.2.2.1 s.2.2.2 K (fun a3 a4 a5 a6 => h1 (a3, a4, a5, a6)) (fun a5 => h2 a5)) 1048576 (x3, x4, x5, x6) K kk2_0
def f_X12_button_J68 (M : Mem)  (y0 : Int64) (y1 : Int64) (y2 : Int32) : Option (Int64 × Mem) :=
  (f_X12_fraction M y0 y1 y2).bind fun v1 =>
  some (v1, M)
set_option maxRecDepth 20000 in
theorem J_X12_button_68 {l : Launch} {G : Gv} {lim : Nat × Nat} (M : Mem)  (y0 : Int64) (y1 : Int64) (y2 : Int32)  : Sim l G Y_X12_button lim (f_X12_button_J68 M y0 y1 y2) (fun z => some (some (.long z.1), z.2)) 68 [none, none, none, none, none, none, none] [.inl y2, .inr (.inl y1), .inr (.inl y0)] M := by
  unfold f_X12_button_J68
  refine s_cS (Z := Y_X12_fraction) (vs := [.inr (.inl y0), .inr (.inl y1), .inl y2]) (st := []) (rO := fun z => some (.inr (.inl z))) (mO := fun _ => M) zk_X12_fraction q1674 q1673 ⟨by decide, by decide⟩ ⟨rfl, rfl⟩ rfl rfl (Nat.le_of_ble_eq_true rfl) (by decide +kernel) (fun z hz => c_X12_fraction hz) (fun v1 => ?_)
  change Sim l G Y_X12_button lim _ _ 71 [none, none, none, none, none, none, none] [.inr (.inl v1)] M
  exact s_lret (by decide +kernel) rfl
def f_X12_button (M : Mem) (x0 : Nat) (x1 : Int32) (x2 : Int32) : Option (Int64 × Mem) :=
  (ob M 12 x0).bind fun _ => (f_X12_isOffice M x0 x1).bind fun z1 =>
  (if z1.1 = 0 then
    f_X12_button_J23 z1.2  
  else
    (gI z1.2 12 x0 12).bind fun v3 =>
    (f_X12_isIn z1.2 x2 (-2 : Int32) (v3 - (1 : Int32))).bind fun v4 =>
    (if v4 = 0 then
      f_X12_button_J23 z1.2  
    else
      (ob z1.2 12 x0).bind fun _ => (f_X12_laysOut z1.2 x0).bind fun z6 =>
      (gI z6 12 x0 12).bind fun v7 =>
      (if 0 ≤ x2 then
        (f_X12_button_L81 z6 x0 x2 (((1 : Int32) <<< (v7 &&& 31)) - (1 : Int32)) (0 : Int32) (-1 : Int32) (0 : Int32)).bind fun r9 =>
        some ((Int32.toInt64 r9), z6)
      else
        (gR z6 12 x0 34).bind fun v10 =>
        (aL z6 v10 (((1 : Int32) <<< (v7 &&& 31)) - (1 : Int32))).bind fun v11 =>
        (gI z6 12 x0 12).bind fun v12 =>
        (f_X12_tens z6 v12).bind fun v13 =>
        (if x2 = (-2 : Int32) then
          f_X12_button_J68 z6  v11 v13 (1 : Int32)
        else
          f_X12_button_J68 z6  v11 v13 (0 : Int32)))))
set_option maxRecDepth 20000 in
theorem S_X12_button {l : Launch} {G : Gv} {lim : Nat × Nat} (M : Mem) (x0 : Nat) (x1 : Int32) (x2 : Int32) : Sim l G Y_X12_button lim (f_X12_button M x0 x1 x2) (fun z => some (some (.long z.1), z.2)) 0 [some (.inr (.inr x0)), some (.inl x1), some (.inl x2), none, none, none, none] [] M := by
  unfold f_X12_button
  refine s_run (b := [(.aload_n 0, 1), (.iload_n 1, 1)]) 2 [some (.inr (.inr x0)), some (.inl x1), some (.inl x2), none, none, none, none] [.inl x1, .inr (.inr x0)] (by decide +kernel) rfl ?_
  refine s_cV (Z := Y_X12_isOffice) (c := 12) (vs := [.inl x1]) (st := []) (rO := fun z => some (.inl z.1)) (mO := fun z => z.2) zk_X12_isOffice zi_X12_isOffice q1550 rfl ⟨by decide, by decide⟩ ⟨rfl, rfl⟩ rfl rfl (Nat.le_of_ble_eq_true rfl) (by decide +kernel) (fun z hz => c_X12_isOffice hz) (fun z1 => ?_)
  change Sim l G Y_X12_button lim _ _ 5 [some (.inr (.inr x0)), some (.inl x1), some (.inl x2), none, none, none, none] [.inl z1.1] z1.2
  refine s_if_eq (tgt := 23) (off := 18) (by decide +kernel) (by decide) (fun h2 => ?_) (fun h2 => ?_)
  · skip
    exact s_lsub (ls' := [none, none, none, none, none, none, none]) trivial (J_X12_button_23 z1.2  )
  · skip
    refine s_run (b := [(.iload_n 2, 1), (.bipush (-2), 2), (.aload_n 0, 1)]) 12 [some (.inr (.inr x0)), some (.inl x1), some (.inl x2), none, none, none, none] [.inr (.inr x0), .inl (-2 : Int32), .inl x2] (by decide +kernel) rfl ?_
    refine s_gI fl_12_162 rfl (by decide +kernel) (fun v3 => ?_)
    refine s_run (b := [(.iconst 1, 1), (.isub, 1)]) 17 [some (.inr (.inr x0)), some (.inl x1), some (.inl x2), none, none, none, none] [.inl (v3 - (1 : Int32)), .inl (-2 : Int32), .inl x2] (by decide +kernel) rfl ?_
    refine s_cS (Z := Y_X12_isIn) (vs := [.inl x2, .inl (-2 : Int32), .inl (v3 - (1 : Int32))]) (st := []) (rO := fun z => some (.inl z)) (mO := fun _ => z1.2) zk_X12_isIn q1464 q1463 ⟨by decide, by decide⟩ ⟨rfl, rfl⟩ rfl rfl (Nat.le_of_ble_eq_true rfl) (by decide +kernel) (fun z hz => c_X12_isIn hz) (fun v4 => ?_)
    change Sim l G Y_X12_button lim _ _ 20 [some (.inr (.inr x0)), some (.inl x1), some (.inl x2), none, none, none, none] [.inl v4] z1.2
    refine s_if_ne (tgt := 27) (off := 7) (by decide +kernel) (by decide) (fun h5 => ?_) (fun h5 => ?_)
    · skip
      exact s_lsub (ls' := [none, none, none, none, none, none, none]) trivial (J_X12_button_23 z1.2  )
    · skip
      refine s_run (b := [(.aload_n 0, 1)]) 28 [some (.inr (.inr x0)), some (.inl x1), some (.inl x2), none, none, none, none] [.inr (.inr x0)] (by decide +kernel) rfl ?_
      refine s_cV (Z := Y_X12_laysOut) (c := 12) (vs := []) (st := []) (rO := fun _ => none) (mO := fun z => z) zk_X12_laysOut zi_X12_laysOut q1719 rfl ⟨by decide, by decide⟩ ⟨rfl, rfl⟩ rfl rfl (Nat.le_of_ble_eq_true rfl) (by decide +kernel) (fun z hz => c_X12_laysOut hz) (fun z6 => ?_)
      change Sim l G Y_X12_button lim _ _ 31 [some (.inr (.inr x0)), some (.inl x1), some (.inl x2), none, none, none, none] [] z6
      refine s_run (b := [(.iconst 1, 1), (.aload_n 0, 1)]) 33 [some (.inr (.inr x0)), some (.inl x1), some (.inl x2), none, none, none, none] [.inr (.inr x0), .inl (1 : Int32)] (by decide +kernel) rfl ?_
      refine s_gI fl_12_162 rfl (by decide +kernel) (fun v7 => ?_)
      refine s_run (b := [(.ishl, 1), (.iconst 1, 1), (.isub, 1), (.istore_n 3, 1), (.iload_n 2, 1)]) 41 [some (.inr (.inr x0)), some (.inl x1), some (.inl x2), some (.inl (((1 : Int32) <<< (v7 &&& 31)) - (1 : Int32))), none, none, none] [.inl x2] (by decide +kernel) rfl ?_
      refine s_if_ge (tgt := 72) (off := 31) (by decide +kernel) (by decide) (fun h8 => ?_) (fun h8 => ?_)
      · skip
        refine s_run (b := [(.iconst 0, 1), (.istore 4, 2), (.iconst (-1), 1), (.istore 5, 2), (.iconst 0, 1), (.istore 6, 2)]) 81 [some (.inr (.inr x0)), some (.inl x1), some (.inl x2), some (.inl (((1 : Int32) <<< (v7 &&& 31)) - (1 : Int32))), some (.inl (0 : Int32)), some (.inl (-1 : Int32)), some (.inl (0 : Int32))] [] (by decide +kernel) rfl ?_
        refine s_lsub (ls' := [some (.inr (.inr x0)), none, some (.inl x2), some (.inl (((1 : Int32) <<< (v7 &&& 31)) - (1 : Int32))), some (.inl (0 : Int32)), some (.inl (-1 : Int32)), some (.inl (0 : Int32))]) ⟨rfl, ⟨rfl, ⟨rfl, ⟨rfl, ⟨rfl, ⟨rfl, trivial⟩⟩⟩⟩⟩⟩ ?_
        refine sim_bind (L_X12_button_81 z6 x0 x2 (((1 : Int32) <<< (v7 &&& 31)) - (1 : Int32)) (0 : Int32) (-1 : Int32) (0 : Int32) _ (fun r9 => ?_))
        change Sim l G Y_X12_button lim _ _ 135 [none, none, none, none, none, some (.inl r9), none] [] z6
        refine s_run (b := [(.iload 5, 2), (.i2l, 1)]) 138 [none, none, none, none, none, some (.inl r9), none] [.inr (.inl (Int32.toInt64 r9))] (by decide +kernel) rfl ?_
        exact s_lret (by decide +kernel) rfl
      · skip
        refine s_run (b := [(.aload_n 0, 1)]) 45 [some (.inr (.inr x0)), some (.inl x1), some (.inl x2), some (.inl (((1 : Int32) <<< (v7 &&& 31)) - (1 : Int32))), none, none, none] [.inr (.inr x0)] (by decide +kernel) rfl ?_
        refine s_gR fl_12_35 rfl (by decide +kernel) (fun v10 => ?_)
        refine s_run (b := [(.iload_n 3, 1)]) 49 [some (.inr (.inr x0)), some (.inl x1), some (.inl x2), some (.inl (((1 : Int32) <<< (v7 &&& 31)) - (1 : Int32))), none, none, none] [.inl (((1 : Int32) <<< (v7 &&& 31)) - (1 : Int32)), .inr (.inr v10)] (by decide +kernel) rfl ?_
        refine s_la (by decide +kernel) (fun v11 => ?_)
        refine s_run (b := [(.aload_n 0, 1)]) 51 [some (.inr (.inr x0)), some (.inl x1), some (.inl x2), some (.inl (((1 : Int32) <<< (v7 &&& 31)) - (1 : Int32))), none, none, none] [.inr (.inr x0), .inr (.inl v11)] (by decide +kernel) rfl ?_
        refine s_gI fl_12_162 rfl (by decide +kernel) (fun v12 => ?_)
        refine s_cS (Z := Y_X12_tens) (vs := [.inl v12]) (st := [.inr (.inl v11)]) (rO := fun z => some (.inr (.inl z))) (mO := fun _ => z6) zk_X12_tens q1670 q1669 ⟨by decide, by decide⟩ ⟨rfl, rfl⟩ rfl rfl (Nat.le_of_ble_eq_true rfl) (by decide +kernel) (fun z hz => c_X12_tens hz) (fun v13 => ?_)
        change Sim l G Y_X12_button lim _ _ 57 [some (.inr (.inr x0)), some (.inl x1), some (.inl x2), some (.inl (((1 : Int32) <<< (v7 &&& 31)) - (1 : Int32))), none, none, none] [.inr (.inl v13), .inr (.inl v11)] z6
        refine s_run (b := [(.iload_n 2, 1), (.bipush (-2), 2)]) 60 [some (.inr (.inr x0)), some (.inl x1), some (.inl x2), some (.inl (((1 : Int32) <<< (v7 &&& 31)) - (1 : Int32))), none, none, none] [.inl (-2 : Int32), .inl x2, .inr (.inl v13), .inr (.inl v11)] (by decide +kernel) rfl ?_
        refine s_ic_ne (tgt := 67) (off := 7) (by decide +kernel) (by decide) (fun h14 => ?_) (fun h14 => ?_)
        · skip
          refine s_run (b := [(.iconst 1, 1), (.goto 4, 3)]) 68 [some (.inr (.inr x0)), some (.inl x1), some (.inl x2), some (.inl (((1 : Int32) <<< (v7 &&& 31)) - (1 : Int32))), none, none, none] [.inl (1 : Int32), .inr (.inl v13), .inr (.inl v11)] (by decide +kernel) rfl ?_
          exact s_lsub (ls' := [none, none, none, none, none, none, none]) trivial (J_X12_button_68 z6  v11 v13 (1 : Int32))
        · skip
          refine s_run (b := [(.iconst 0, 1)]) 68 [some (.inr (.inr x0)), some (.inl x1), some (.inl x2), some (.inl (((1 : Int32) <<< (v7 &&& 31)) - (1 : Int32))), none, none, none] [.inl (0 : Int32), .inr (.inl v13), .inr (.inl v11)] (by decide +kernel) rfl ?_
          exact s_lsub (ls' := [none, none, none, none, none, none, none]) trivial (J_X12_button_68 z6  v11 v13 (0 : Int32))
set_option maxRecDepth 20000 in
theorem c_X12_button {l : Launch} {G : Gv} {M : Mem} {x0 : Nat} {x1 : Int32} {x2 : Int32} {z : Int64 × Mem} (h : f_X12_button M x0 x1 x2 = some z) : MetS l G Y_X12_button [.inr (.inr x0), .inl x1, .inl x2] M (some (.long z.1)) z.2 :=
  met_of (ls0 := [some (.inr (.inr x0)), some (.inl x1), some (.inl x2), none, none, none, none]) (by decide) rfl (lv_in (m := 4) rfl) (sl_le (Nat.le_of_ble_eq_true rfl)) (by rw [h]; rfl) (Or.inl ⟨rfl, rfl⟩) (S_X12_button M x0 x1 x2)
def f_X12_count (M : Mem) (x0 : Nat) (x1 : Int32) : Option (Int32) :=
  (f_X12_isIn M x1 (0 : Int32) (2 : Int32)).bind fun v1 =>
  (if v1 = 0 then
    some (-2 : Int32)
  else
    (gR M 12 x0 0).bind fun v3 =>
    (aI M 0 v3 x1).bind fun v4 =>
    some v4)
set_option maxRecDepth 20000 in
theorem S_X12_count {l : Launch} {G : Gv} {lim : Nat × Nat} (M : Mem) (x0 : Nat) (x1 : Int32) : Sim l G Y_X12_count lim (f_X12_count M x0 x1) (fun z => some (some (.int z), M)) 0 [some (.inr (.inr x0)), some (.inl x1)] [] M := by
  unfold f_X12_count
  refine s_run (b := [(.iload_n 1, 1), (.iconst 0, 1), (.iconst 2, 1)]) 3 [some (.inr (.inr x0)), some (.inl x1)] [.inl (2 : Int32), .inl (0 : Int32), .inl x1] (by decide +kernel) rfl ?_
  refine s_cS (Z := Y_X12_isIn) (vs := [.inl x1, .inl (0 : Int32), .inl (2 : Int32)]) (st := []) (rO := fun z => some (.inl z)) (mO := fun _ => M) zk_X12_isIn q1464 q1463 ⟨by decide, by decide⟩ ⟨rfl, rfl⟩ rfl rfl (Nat.le_of_ble_eq_true rfl) (by decide +kernel) (fun z hz => c_X12_isIn hz) (fun v1 => ?_)
  change Sim l G Y_X12_count lim _ _ 6 [some (.inr (.inr x0)), some (.inl x1)] [.inl v1] M
  refine s_if_eq (tgt := 18) (off := 12) (by decide +kernel) (by decide) (fun h2 => ?_) (fun h2 => ?_)
  · skip
    refine s_run (b := [(.bipush (-2), 2)]) 20 [some (.inr (.inr x0)), some (.inl x1)] [.inl (-2 : Int32)] (by decide +kernel) rfl ?_
    exact s_iret (by decide +kernel) rfl
  · skip
    refine s_run (b := [(.aload_n 0, 1)]) 10 [some (.inr (.inr x0)), some (.inl x1)] [.inr (.inr x0)] (by decide +kernel) rfl ?_
    refine s_gR fl_12_7 rfl (by decide +kernel) (fun v3 => ?_)
    refine s_run (b := [(.iload_n 1, 1)]) 14 [some (.inr (.inr x0)), some (.inl x1)] [.inl x1, .inr (.inr v3)] (by decide +kernel) rfl ?_
    refine s_ia (by decide +kernel) (fun v4 => ?_)
    refine s_run (b := [(.goto 5, 3)]) 20 [some (.inr (.inr x0)), some (.inl x1)] [.inl v4] (by decide +kernel) rfl ?_
    exact s_iret (by decide +kernel) rfl
set_option maxRecDepth 20000 in
theorem c_X12_count {l : Launch} {G : Gv} {M : Mem} {x0 : Nat} {x1 : Int32} {z : Int32} (h : f_X12_count M x0 x1 = some z) : MetS l G Y_X12_count [.inr (.inr x0), .inl x1] M (some (.int z)) M :=
  met_of (ls0 := [some (.inr (.inr x0)), some (.inl x1)]) (by decide) rfl (lv_in (m := 0) rfl) (sl_le (Nat.le_of_ble_eq_true rfl)) (by rw [h]; rfl) (Or.inl ⟨rfl, rfl⟩) (S_X12_count M x0 x1)
def f_X12_curve_B25 (M : Mem) (x0 : Nat) (x2 : Int32) (x3 : Int32) (x4 : Int32) : Option ((Int32 × Int32) ⊕ ((Int32))) :=
  (gI M 12 x0 13).bind fun v1 =>
  (if v1 ≤ x4 then
    some (.inr x3)
  else
    (ob M 12 x0).bind fun _ => (f_X12_ofCall M x0 x4 (1 : Int32)).bind fun v3 =>
    (ob M 12 x0).bind fun _ => (f_X12_gotBy M x0 v3 x2).bind fun v4 =>
    some (.inl ((x3 + v4), (x4 + (1 : Int32)))))
def f_X12_curve_L25 (M : Mem) (x0 : Nat) (x2 : Int32) (x3 : Int32) (x4 : Int32) : Option ((Int32)) := iter (fun s : Int32 × Int32 => f_X12_curve_B25 M x0 x2 s.1 s.2) 1048576 (x3, x4)
set_option maxRecDepth 20000 in
theorem B_X12_curve_25 {l : Launch} {G : Gv} {lim : Nat × Nat} (M : Mem) (x0 : Nat) (x2 : Int32) (x3 : Int32) (x4 : Int32) (K : (Int32 × Int32) ⊕ ((Int32)) → Option (Option Value × Mem)) (kk1 : ∀ (s3 : Int32) (s4 : Int32), SimR l G Y_X12_curve lim (K (.inl (s3, s4))) 25 [some (.inr (.inr x0)), none, some (.inl x2), some (.inl s3), some (.inl s4)] [] M) (kk2_0 : ∀ (s3 : Int32), SimR l G Y_X12_curve lim (K (.inr s3)) 55 [none, none, none, some (.inl s3), none] [] M) : Sim l G Y_X12_curve lim (f_X12_curve_B25 M x0 x2 x3 x4) K 25 [some (.inr (.inr x0)), none, some (.inl x2), some (.inl x3), some (.inl x4)] [] M := by
  unfold f_X12_curve_B25
  refine s_run (b := [(.iload 4, 2), (.aload_n 0, 1)]) 28 [some (.inr (.inr x0)), none, some (.inl x2), some (.inl x3), some (.inl x4)] [.inr (.inr x0), .inl x4] (by decide +kernel) rfl ?_
  refine s_gI fl_12_165 rfl (by decide +kernel) (fun v1 => ?_)
  refine s_ic_ge (tgt := 55) (off := 24) (by decide +kernel) (by decide) (fun h2 => ?_) (fun h2 => ?_)
  · skip
    exact s_lsub (ls' := [none, none, none, some (.inl x3), none]) ⟨rfl, trivial⟩ (kk2_0 x3)
  · skip
    refine s_run (b := [(.iload_n 3, 1), (.aload_n 0, 1), (.aload_n 0, 1), (.iload 4, 2), (.iconst 1, 1)]) 40 [some (.inr (.inr x0)), none, some (.inl x2), some (.inl x3), some (.inl x4)] [.inl (1 : Int32), .inl x4, .inr (.inr x0), .inr (.inr x0), .inl x3] (by decide +kernel) rfl ?_
    refine s_cV (Z := Y_X12_ofCall) (c := 12) (vs := [.inl x4, .inl (1 : Int32)]) (st := [.inr (.inr x0), .inl x3]) (rO := fun z => some (.inl z)) (mO := fun _ => M) zk_X12_ofCall zi_X12_ofCall q1566 rfl ⟨by decide, by decide⟩ ⟨rfl, rfl⟩ rfl rfl (Nat.le_of_ble_eq_true rfl) (by decide +kernel) (fun z hz => c_X12_ofCall hz) (fun v3 => ?_)
    change Sim l G Y_X12_curve lim _ _ 43 [some (.inr (.inr x0)), none, some (.inl x2), some (.inl x3), some (.inl x4)] [.inl v3, .inr (.inr x0), .inl x3] M
    refine s_run (b := [(.iload_n 2, 1)]) 44 [some (.inr (.inr x0)), none, some (.inl x2), some (.inl x3), some (.inl x4)] [.inl x2, .inl v3, .inr (.inr x0), .inl x3] (by decide +kernel) rfl ?_
    refine s_cV (Z := Y_X12_gotBy) (c := 12) (vs := [.inl v3, .inl x2]) (st := [.inl x3]) (rO := fun z => some (.inl z)) (mO := fun _ => M) zk_X12_gotBy zi_X12_gotBy q1629 rfl ⟨by decide, by decide⟩ ⟨rfl, rfl⟩ rfl rfl (Nat.le_of_ble_eq_true rfl) (by decide +kernel) (fun z hz => c_X12_gotBy hz) (fun v4 => ?_)
    change Sim l G Y_X12_curve lim _ _ 47 [some (.inr (.inr x0)), none, some (.inl x2), some (.inl x3), some (.inl x4)] [.inl v4, .inl x3] M
    refine s_run (b := [(.iadd, 1), (.istore_n 3, 1), (.iinc 4 1, 3), (.goto (-27), 3)]) 25 [some (.inr (.inr x0)), none, some (.inl x2), some (.inl (x3 + v4)), some (.inl (x4 + (1 : Int32)))] [] (by decide +kernel) rfl ?_
    exact s_lsub (ls' := [some (.inr (.inr x0)), none, some (.inl x2), some (.inl (x3 + v4)), some (.inl (x4 + (1 : Int32)))]) ⟨rfl, ⟨rfl, ⟨rfl, ⟨rfl, trivial⟩⟩⟩⟩ (kk1 (x3 + v4) (x4 + (1 : Int32)))
set_option maxRecDepth 20000 in
theorem L_X12_curve_25 {l : Launch} {G : Gv} {lim : Nat × Nat} (M : Mem) (x0 : Nat) (x2 : Int32) (x3 : Int32) (x4 : Int32) (K : ((Int32)) → Option (Option Value × Mem)) (kk2_0 : ∀ r : Int32, SimR l G Y_X12_curve lim (K r) 55 [none, none, none, some (.inl r), none] [] M) : Sim l G Y_X12_curve lim (f_X12_curve_L25 M x0 x2 x3 x4) K 25 [some (.inr (.inr x0)), none, some (.inl x2), some (.inl x3), some (.inl x4)] [] M :=
  s_iter (f := fun s : Int32 × Int32 => f_X12_curve_B25 M x0 x2 s.1 s.2) (hd := 25) (cl := fun s => [some (.inr (.inr x0)), none, some (.inl x2), some (.inl s.1), some (.inl s.2)]) (cm := fun s => M) (xp := fun _ => 55) (xl := fun r => [none, none, none, some (.inl r), none]) (xm := fun r => M) (fun s K h1 h2 => B_X12_curve_25 M x0 x2 s.1 s.2 K (fun a3 a4 => h1 (a3, a4)) (fun a3 => h2 a3)) 1048576 (x3, x4) K kk2_0
def f_X12_curve (M : Mem) (x0 : Nat) (x1 : Int32) (x2 : Int32) : Option (Int32 × Mem) :=
  (ob M 12 x0).bind fun _ => (f_X12_isOffice M x0 x1).bind fun z1 =>
  (if z1.1 = 0 then
    some ((-1 : Int32), z1.2)
  else
    (f_X12_isIn z1.2 x2 (1 : Int32) (12 : Int32)).bind fun v3 =>
    (if v3 = 0 then
      some ((-1 : Int32), z1.2)
    else
      (f_X12_curve_L25 z1.2 x0 x2 (0 : Int32) (0 : Int32)).bind fun r5 =>
      some (r5, z1.2)))
set_option maxRecDepth 20000 in
theorem S_X12_curve {l : Launch} {G : Gv} {lim : Nat × Nat} (M : Mem) (x0 : Nat) (x1 : Int32) (x2 : Int32) : Sim l G Y_X12_curve lim (f_X12_curve M x0 x1 x2) (fun z => some (some (.int z.1), z.2)) 0 [some (.inr (.inr x0)), some (.inl x1), some (.inl x2), none, none] [] M := by
  unfold f_X12_curve
  refine s_run (b := [(.aload_n 0, 1), (.iload_n 1, 1)]) 2 [some (.inr (.inr x0)), some (.inl x1), some (.inl x2), none, none] [.inl x1, .inr (.inr x0)] (by decide +kernel) rfl ?_
  refine s_cV (Z := Y_X12_isOffice) (c := 12) (vs := [.inl x1]) (st := []) (rO := fun z => some (.inl z.1)) (mO := fun z => z.2) zk_X12_isOffice zi_X12_isOffice q1550 rfl ⟨by decide, by decide⟩ ⟨rfl, rfl⟩ rfl rfl (Nat.le_of_ble_eq_true rfl) (by decide +kernel) (fun z hz => c_X12_isOffice hz) (fun z1 => ?_)
  change Sim l G Y_X12_curve lim _ _ 5 [some (.inr (.inr x0)), some (.inl x1), some (.inl x2), none, none] [.inl z1.1] z1.2
  refine s_if_eq (tgt := 18) (off := 13) (by decide +kernel) (by decide) (fun h2 => ?_) (fun h2 => ?_)
  · skip
    refine s_run (b := [(.iconst (-1), 1)]) 19 [some (.inr (.inr x0)), some (.inl x1), some (.inl x2), none, none] [.inl (-1 : Int32)] (by decide +kernel) rfl ?_
    exact s_iret (by decide +kernel) rfl
  · skip
    refine s_run (b := [(.iload_n 2, 1), (.iconst 1, 1), (.bipush 12, 2)]) 12 [some (.inr (.inr x0)), some (.inl x1), some (.inl x2), none, none] [.inl (12 : Int32), .inl (1 : Int32), .inl x2] (by decide +kernel) rfl ?_
    refine s_cS (Z := Y_X12_isIn) (vs := [.inl x2, .inl (1 : Int32), .inl (12 : Int32)]) (st := []) (rO := fun z => some (.inl z)) (mO := fun _ => z1.2) zk_X12_isIn q1464 q1463 ⟨by decide, by decide⟩ ⟨rfl, rfl⟩ rfl rfl (Nat.le_of_ble_eq_true rfl) (by decide +kernel) (fun z hz => c_X12_isIn hz) (fun v3 => ?_)
    change Sim l G Y_X12_curve lim _ _ 15 [some (.inr (.inr x0)), some (.inl x1), some (.inl x2), none, none] [.inl v3] z1.2
    refine s_if_ne (tgt := 20) (off := 5) (by decide +kernel) (by decide) (fun h4 => ?_) (fun h4 => ?_)
    · skip
      refine s_run (b := [(.iconst (-1), 1)]) 19 [some (.inr (.inr x0)), some (.inl x1), some (.inl x2), none, none] [.inl (-1 : Int32)] (by decide +kernel) rfl ?_
      exact s_iret (by decide +kernel) rfl
    · skip
      refine s_run (b := [(.iconst 0, 1), (.istore_n 3, 1), (.iconst 0, 1), (.istore 4, 2)]) 25 [some (.inr (.inr x0)), some (.inl x1), some (.inl x2), some (.inl (0 : Int32)), some (.inl (0 : Int32))] [] (by decide +kernel) rfl ?_
      refine s_lsub (ls' := [some (.inr (.inr x0)), none, some (.inl x2), some (.inl (0 : Int32)), some (.inl (0 : Int32))]) ⟨rfl, ⟨rfl, ⟨rfl, ⟨rfl, trivial⟩⟩⟩⟩ ?_
      refine sim_bind (L_X12_curve_25 z1.2 x0 x2 (0 : Int32) (0 : Int32) _ (fun r5 => ?_))
      change Sim l G Y_X12_curve lim _ _ 55 [none, none, none, some (.inl r5), none] [] z1.2
      refine s_run (b := [(.iload_n 3, 1)]) 56 [none, none, none, some (.inl r5), none] [.inl r5] (by decide +kernel) rfl ?_
      exact s_iret (by decide +kernel) rfl
set_option maxRecDepth 20000 in
theorem c_X12_curve {l : Launch} {G : Gv} {M : Mem} {x0 : Nat} {x1 : Int32} {x2 : Int32} {z : Int32 × Mem} (h : f_X12_curve M x0 x1 x2 = some z) : MetS l G Y_X12_curve [.inr (.inr x0), .inl x1, .inl x2] M (some (.int z.1)) z.2 :=
  met_of (ls0 := [some (.inr (.inr x0)), some (.inl x1), some (.inl x2), none, none]) (by decide) rfl (lv_in (m := 2) rfl) (sl_le (Nat.le_of_ble_eq_true rfl)) (by rw [h]; rfl) (Or.inl ⟨rfl, rfl⟩) (S_X12_curve M x0 x1 x2)
def f_X12_deed (M : Mem) (x0 : Nat) (x1 : Int32) (x2 : Int32) (x3 : Int32) : Option (Int32 × Mem) :=
  (ob M 12 x0).bind fun _ => (f_X12_isDay M x0 x1).bind fun z1 =>
  (if z1.1 = 0 then
    some ((-2 : Int32), z1.2)
  else
    (if x2 = (-1 : Int32) then
      (if x3 = 0 then
        (gR z1.2 12 x0 0).bind fun v5 =>
        (gI z1.2 12 x0 19).bind fun v6 =>
        (aI z1.2 0 v5 v6).bind fun v7 =>
        some (v7, z1.2)
      else
        some ((-2 : Int32), z1.2))
    else
      (gR z1.2 12 x0 0).bind fun v8 =>
      (gI z1.2 12 x0 19).bind fun v9 =>
      (aI z1.2 0 v8 v9).bind fun v10 =>
      (f_X12_isIn z1.2 x2 (0 : Int32) (v10 - (1 : Int32))).bind fun v11 =>
      (if v11 = 0 then
        some ((-2 : Int32), z1.2)
      else
        (f_X12_isIn z1.2 x3 (0 : Int32) (1 : Int32)).bind fun v13 =>
        (if v13 = 0 then
          some ((-2 : Int32), z1.2)
        else
          (gR z1.2 12 x0 0).bind fun v15 =>
          (gI z1.2 12 x0 19).bind fun v16 =>
          (aI z1.2 0 v15 (((v16 + (1 : Int32)) + ((2 : Int32) * x2)) + x3)).bind fun v17 =>
          some (v17, z1.2)))))
set_option maxRecDepth 20000 in
theorem S_X12_deed {l : Launch} {G : Gv} {lim : Nat × Nat} (M : Mem) (x0 : Nat) (x1 : Int32) (x2 : Int32) (x3 : Int32) : Sim l G Y_X12_deed lim (f_X12_deed M x0 x1 x2 x3) (fun z => some (some (.int z.1), z.2)) 0 [some (.inr (.inr x0)), some (.inl x1), some (.inl x2), some (.inl x3)] [] M := by
  unfold f_X12_deed
  refine s_run (b := [(.aload_n 0, 1), (.iload_n 1, 1)]) 2 [some (.inr (.inr x0)), some (.inl x1), some (.inl x2), some (.inl x3)] [.inl x1, .inr (.inr x0)] (by decide +kernel) rfl ?_
  refine s_cV (Z := Y_X12_isDay) (c := 12) (vs := [.inl x1]) (st := []) (rO := fun z => some (.inl z.1)) (mO := fun z => z.2) zk_X12_isDay zi_X12_isDay q1574 rfl ⟨by decide, by decide⟩ ⟨rfl, rfl⟩ rfl rfl (Nat.le_of_ble_eq_true rfl) (by decide +kernel) (fun z hz => c_X12_isDay hz) (fun z1 => ?_)
  change Sim l G Y_X12_deed lim _ _ 5 [some (.inr (.inr x0)), some (.inl x1), some (.inl x2), some (.inl x3)] [.inl z1.1] z1.2
  refine s_if_ne (tgt := 11) (off := 6) (by decide +kernel) (by decide) (fun h2 => ?_) (fun h2 => ?_)
  · skip
    refine s_run (b := [(.bipush (-2), 2)]) 10 [some (.inr (.inr x0)), some (.inl x1), some (.inl x2), some (.inl x3)] [.inl (-2 : Int32)] (by decide +kernel) rfl ?_
    exact s_iret (by decide +kernel) rfl
  · skip
    refine s_run (b := [(.iload_n 2, 1), (.iconst (-1), 1)]) 13 [some (.inr (.inr x0)), some (.inl x1), some (.inl x2), some (.inl x3)] [.inl (-1 : Int32), .inl x2] (by decide +kernel) rfl ?_
    refine s_ic_ne (tgt := 35) (off := 22) (by decide +kernel) (by decide) (fun h3 => ?_) (fun h3 => ?_)
    · skip
      refine s_run (b := [(.iload_n 3, 1)]) 17 [some (.inr (.inr x0)), some (.inl x1), some (.inl x2), some (.inl x3)] [.inl x3] (by decide +kernel) rfl ?_
      refine s_if_ne (tgt := 32) (off := 15) (by decide +kernel) (by decide) (fun h4 => ?_) (fun h4 => ?_)
      · skip
        refine s_run (b := [(.aload_n 0, 1)]) 21 [some (.inr (.inr x0)), some (.inl x1), some (.inl x2), some (.inl x3)] [.inr (.inr x0)] (by decide +kernel) rfl ?_
        refine s_gR fl_12_7 rfl (by decide +kernel) (fun v5 => ?_)
        refine s_run (b := [(.aload_n 0, 1)]) 25 [some (.inr (.inr x0)), some (.inl x1), some (.inl x2), some (.inl x3)] [.inr (.inr x0), .inr (.inr v5)] (by decide +kernel) rfl ?_
        refine s_gI fl_12_208 rfl (by decide +kernel) (fun v6 => ?_)
        refine s_ia (by decide +kernel) (fun v7 => ?_)
        refine s_run (b := [(.goto 5, 3)]) 34 [some (.inr (.inr x0)), some (.inl x1), some (.inl x2), some (.inl x3)] [.inl v7] (by decide +kernel) rfl ?_
        exact s_iret (by decide +kernel) rfl
      · skip
        refine s_run (b := [(.bipush (-2), 2)]) 34 [some (.inr (.inr x0)), some (.inl x1), some (.inl x2), some (.inl x3)] [.inl (-2 : Int32)] (by decide +kernel) rfl ?_
        exact s_iret (by decide +kernel) rfl
    · skip
      refine s_run (b := [(.iload_n 2, 1), (.iconst 0, 1), (.aload_n 0, 1)]) 38 [some (.inr (.inr x0)), some (.inl x1), some (.inl x2), some (.inl x3)] [.inr (.inr x0), .inl (0 : Int32), .inl x2] (by decide +kernel) rfl ?_
      refine s_gR fl_12_7 rfl (by decide +kernel) (fun v8 => ?_)
      refine s_run (b := [(.aload_n 0, 1)]) 42 [some (.inr (.inr x0)), some (.inl x1), some (.inl x2), some (.inl x3)] [.inr (.inr x0), .inr (.inr v8), .inl (0 : Int32), .inl x2] (by decide +kernel) rfl ?_
      refine s_gI fl_12_208 rfl (by decide +kernel) (fun v9 => ?_)
      refine s_ia (by decide +kernel) (fun v10 => ?_)
      refine s_run (b := [(.iconst 1, 1), (.isub, 1)]) 48 [some (.inr (.inr x0)), some (.inl x1), some (.inl x2), some (.inl x3)] [.inl (v10 - (1 : Int32)), .inl (0 : Int32), .inl x2] (by decide +kernel) rfl ?_
      refine s_cS (Z := Y_X12_isIn) (vs := [.inl x2, .inl (0 : Int32), .inl (v10 - (1 : Int32))]) (st := []) (rO := fun z => some (.inl z)) (mO := fun _ => z1.2) zk_X12_isIn q1464 q1463 ⟨by decide, by decide⟩ ⟨rfl, rfl⟩ rfl rfl (Nat.le_of_ble_eq_true rfl) (by decide +kernel) (fun z hz => c_X12_isIn hz) (fun v11 => ?_)
      change Sim l G Y_X12_deed lim _ _ 51 [some (.inr (.inr x0)), some (.inl x1), some (.inl x2), some (.inl x3)] [.inl v11] z1.2
      refine s_if_eq (tgt := 83) (off := 32) (by decide +kernel) (by decide) (fun h12 => ?_) (fun h12 => ?_)
      · skip
        refine s_run (b := [(.bipush (-2), 2)]) 85 [some (.inr (.inr x0)), some (.inl x1), some (.inl x2), some (.inl x3)] [.inl (-2 : Int32)] (by decide +kernel) rfl ?_
        exact s_iret (by decide +kernel) rfl
      · skip
        refine s_run (b := [(.iload_n 3, 1), (.iconst 0, 1), (.iconst 1, 1)]) 57 [some (.inr (.inr x0)), some (.inl x1), some (.inl x2), some (.inl x3)] [.inl (1 : Int32), .inl (0 : Int32), .inl x3] (by decide +kernel) rfl ?_
        refine s_cS (Z := Y_X12_isIn) (vs := [.inl x3, .inl (0 : Int32), .inl (1 : Int32)]) (st := []) (rO := fun z => some (.inl z)) (mO := fun _ => z1.2) zk_X12_isIn q1464 q1463 ⟨by decide, by decide⟩ ⟨rfl, rfl⟩ rfl rfl (Nat.le_of_ble_eq_true rfl) (by decide +kernel) (fun z hz => c_X12_isIn hz) (fun v13 => ?_)
        change Sim l G Y_X12_deed lim _ _ 60 [some (.inr (.inr x0)), some (.inl x1), some (.inl x2), some (.inl x3)] [.inl v13] z1.2
        refine s_if_eq (tgt := 83) (off := 23) (by decide +kernel) (by decide) (fun h14 => ?_) (fun h14 => ?_)
        · skip
          refine s_run (b := [(.bipush (-2), 2)]) 85 [some (.inr (.inr x0)), some (.inl x1), some (.inl x2), some (.inl x3)] [.inl (-2 : Int32)] (by decide +kernel) rfl ?_
          exact s_iret (by decide +kernel) rfl
        · skip
          refine s_run (b := [(.aload_n 0, 1)]) 64 [some (.inr (.inr x0)), some (.inl x1), some (.inl x2), some (.inl x3)] [.inr (.inr x0)] (by decide +kernel) rfl ?_
          refine s_gR fl_12_7 rfl (by decide +kernel) (fun v15 => ?_)
          refine s_run (b := [(.aload_n 0, 1)]) 68 [some (.inr (.inr x0)), some (.inl x1), some (.inl x2), some (.inl x3)] [.inr (.inr x0), .inr (.inr v15)] (by decide +kernel) rfl ?_
          refine s_gI fl_12_208 rfl (by decide +kernel) (fun v16 => ?_)
          refine s_run (b := [(.iconst 1, 1), (.iadd, 1), (.iconst 2, 1), (.iload_n 2, 1), (.imul, 1), (.iadd, 1), (.iload_n 3, 1), (.iadd, 1)]) 79 [some (.inr (.inr x0)), some (.inl x1), some (.inl x2), some (.inl x3)] [.inl (((v16 + (1 : Int32)) + ((2 : Int32) * x2)) + x3), .inr (.inr v15)] (by decide +kernel) rfl ?_
          refine s_ia (by decide +kernel) (fun v17 => ?_)
          refine s_run (b := [(.goto 5, 3)]) 85 [some (.inr (.inr x0)), some (.inl x1), some (.inl x2), some (.inl x3)] [.inl v17] (by decide +kernel) rfl ?_
          exact s_iret (by decide +kernel) rfl
set_option maxRecDepth 20000 in
theorem c_X12_deed {l : Launch} {G : Gv} {M : Mem} {x0 : Nat} {x1 : Int32} {x2 : Int32} {x3 : Int32} {z : Int32 × Mem} (h : f_X12_deed M x0 x1 x2 x3 = some z) : MetS l G Y_X12_deed [.inr (.inr x0), .inl x1, .inl x2, .inl x3] M (some (.int z.1)) z.2 :=
  met_of (ls0 := [some (.inr (.inr x0)), some (.inl x1), some (.inl x2), some (.inl x3)]) (by decide) rfl (lv_in (m := 0) rfl) (sl_le (Nat.le_of_ble_eq_true rfl)) (by rw [h]; rfl) (Or.inl ⟨rfl, rfl⟩) (S_X12_deed M x0 x1 x2 x3)
