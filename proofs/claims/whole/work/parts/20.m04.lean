def f_X10_begin_B8 (M : Mem) (x0 : Nat) (x1 : Nat) (x2 : Int32) (x3 : Int32) (x4 : Int32) (x5 : Int32) : Option ((Int32 × Mem) ⊕ ((Mem))) :=
  (gI M 5 x1 0).bind fun v1 =>
  (if v1 ≤ x5 then
    some (.inr M)
  else
    (gI M 10 x0 0).bind fun v3 =>
    (if x4 ≤ v3 then
      some (.inl ((x5 + (1 : Int32)), M))
    else
      (ob M 5 x1).bind fun _ => (f_X5_hears M x1 x5 x2).bind fun v5 =>
      (if v5 = 0 then
        some (.inl ((x5 + (1 : Int32)), M))
      else
        (gR M 5 x1 5).bind fun v7 =>
        (aI M 0 v7 x5).bind fun v8 =>
        (if v8 = (2 : Int32) then
          some (.inl ((x5 + (1 : Int32)), M))
        else
          (gR M 10 x0 1).bind fun v10 =>
          (gI M 10 x0 0).bind fun v11 =>
          (ob M 5 x1).bind fun _ => (f_X5_gap M x1 x5 x2).bind fun v12 =>
          (sI M 0 v10 v11 v12).bind fun M13 =>
          (gR M13 10 x0 2).bind fun v14 =>
          (gI M13 10 x0 0).bind fun v15 =>
          (gR M13 5 x1 8).bind fun v16 =>
          (aI M13 0 v16 x5).bind fun v17 =>
          (sI M13 0 v14 v15 v17).bind fun M18 =>
          (gI M18 10 x0 0).bind fun v19 =>
          (pI M18 10 x0 0 (v19 + (1 : Int32))).bind fun M20 =>
          some (.inl ((x5 + (1 : Int32)), M20))))))
def f_X10_begin_L8 (M : Mem) (x0 : Nat) (x1 : Nat) (x2 : Int32) (x3 : Int32) (x4 : Int32) (x5 : Int32) : Option ((Mem)) := iter (fun s : Int32 × Mem => f_X10_begin_B8 s.2 x0 x1 x2 x3 x4 s.1) 1048576 (x5, M)
set_option maxRecDepth 20000 in
theorem B_X10_begin_8 {l : Launch} {G : Gv} {lim : Nat × Nat} (M : Mem) (x0 : Nat) (x1 : Nat) (x2 : Int32) (x3 : Int32) (x4 : Int32) (x5 : Int32) (K : (Int32 × Mem) ⊕ ((Mem)) → Option (Option Value × Mem)) (kk1 : ∀ (s5 : Int32) (s_ : Mem), SimR l G Y_X10_begin lim (K (.inl (s5, s_))) 8 [some (.inr (.inr x0)), some (.inr (.inr x1)), some (.inl x2), some (.inl x3), some (.inl x4), some (.inl s5)] [] s_) (kk2_0 : ∀ (s_ : Mem), SimR l G Y_X10_begin lim (K (.inr s_)) 95 [some (.inr (.inr x0)), some (.inr (.inr x1)), none, some (.inl x3), none, none] [] s_) : Sim l G Y_X10_begin lim (f_X10_begin_B8 M x0 x1 x2 x3 x4 x5) K 8 [some (.inr (.inr x0)), some (.inr (.inr x1)), some (.inl x2), some (.inl x3), some (.inl x4), some (.inl x5)] [] M := by
  unfold f_X10_begin_B8
  refine s_run (b := [(.iload 5, 2), (.aload_n 1, 1)]) 11 [some (.inr (.inr x0)), some (.inr (.inr x1)), some (.inl x2), some (.inl x3), some (.inl x4), some (.inl x5)] [.inr (.inr x1), .inl x5] (by decide +kernel) rfl ?_
  refine s_gI fl_10_28 rfl (by decide +kernel) (fun v1 => ?_)
  refine s_ic_ge (tgt := 95) (off := 81) (by decide +kernel) (by decide) (fun h2 => ?_) (fun h2 => ?_)
  · skip
    exact s_lsub (ls' := [some (.inr (.inr x0)), some (.inr (.inr x1)), none, some (.inl x3), none, none]) ⟨rfl, ⟨rfl, ⟨rfl, trivial⟩⟩⟩ (kk2_0 M)
  · skip
    refine s_run (b := [(.aload_n 0, 1)]) 18 [some (.inr (.inr x0)), some (.inr (.inr x1)), some (.inl x2), some (.inl x3), some (.inl x4), some (.inl x5)] [.inr (.inr x0)] (by decide +kernel) rfl ?_
    refine s_gI fl_10_24 rfl (by decide +kernel) (fun v3 => ?_)
    refine s_run (b := [(.iload 4, 2)]) 23 [some (.inr (.inr x0)), some (.inr (.inr x1)), some (.inl x2), some (.inl x3), some (.inl x4), some (.inl x5)] [.inl x4, .inl v3] (by decide +kernel) rfl ?_
    refine s_ic_ge (tgt := 89) (off := 66) (by decide +kernel) (by decide) (fun h4 => ?_) (fun h4 => ?_)
    · skip
      refine s_run (b := [(.iinc 5 1, 3), (.goto (-84), 3)]) 8 [some (.inr (.inr x0)), some (.inr (.inr x1)), some (.inl x2), some (.inl x3), some (.inl x4), some (.inl (x5 + (1 : Int32)))] [] (by decide +kernel) rfl ?_
      exact s_lsub (ls' := [some (.inr (.inr x0)), some (.inr (.inr x1)), some (.inl x2), some (.inl x3), some (.inl x4), some (.inl (x5 + (1 : Int32)))]) ⟨rfl, ⟨rfl, ⟨rfl, ⟨rfl, ⟨rfl, ⟨rfl, trivial⟩⟩⟩⟩⟩⟩ (kk1 (x5 + (1 : Int32)) M)
    · skip
      refine s_run (b := [(.aload_n 1, 1), (.iload 5, 2), (.iload_n 2, 1)]) 30 [some (.inr (.inr x0)), some (.inr (.inr x1)), some (.inl x2), some (.inl x3), some (.inl x4), some (.inl x5)] [.inl x2, .inl x5, .inr (.inr x1)] (by decide +kernel) rfl ?_
      refine s_cV (Z := Y_X5_hears) (c := 5) (vs := [.inl x5, .inl x2]) (st := []) (rO := fun z => some (.inl z)) (mO := fun _ => M) zk_X5_hears zi_X5_hears q909 rfl ⟨by decide, by decide⟩ ⟨rfl, rfl⟩ rfl rfl (Nat.le_of_ble_eq_true rfl) (by decide +kernel) (fun z hz => c_X5_hears hz) (fun v5 => ?_)
      change Sim l G Y_X10_begin lim _ _ 33 [some (.inr (.inr x0)), some (.inr (.inr x1)), some (.inl x2), some (.inl x3), some (.inl x4), some (.inl x5)] [.inl v5] M
      refine s_if_eq (tgt := 89) (off := 56) (by decide +kernel) (by decide) (fun h6 => ?_) (fun h6 => ?_)
      · skip
        refine s_run (b := [(.iinc 5 1, 3), (.goto (-84), 3)]) 8 [some (.inr (.inr x0)), some (.inr (.inr x1)), some (.inl x2), some (.inl x3), some (.inl x4), some (.inl (x5 + (1 : Int32)))] [] (by decide +kernel) rfl ?_
        exact s_lsub (ls' := [some (.inr (.inr x0)), some (.inr (.inr x1)), some (.inl x2), some (.inl x3), some (.inl x4), some (.inl (x5 + (1 : Int32)))]) ⟨rfl, ⟨rfl, ⟨rfl, ⟨rfl, ⟨rfl, ⟨rfl, trivial⟩⟩⟩⟩⟩⟩ (kk1 (x5 + (1 : Int32)) M)
      · skip
        refine s_run (b := [(.aload_n 1, 1)]) 37 [some (.inr (.inr x0)), some (.inr (.inr x1)), some (.inl x2), some (.inl x3), some (.inl x4), some (.inl x5)] [.inr (.inr x1)] (by decide +kernel) rfl ?_
        refine s_gR fl_10_37 rfl (by decide +kernel) (fun v7 => ?_)
        refine s_run (b := [(.iload 5, 2)]) 42 [some (.inr (.inr x0)), some (.inr (.inr x1)), some (.inl x2), some (.inl x3), some (.inl x4), some (.inl x5)] [.inl x5, .inr (.inr v7)] (by decide +kernel) rfl ?_
        refine s_ia (by decide +kernel) (fun v8 => ?_)
        refine s_run (b := [(.iconst 2, 1)]) 44 [some (.inr (.inr x0)), some (.inr (.inr x1)), some (.inl x2), some (.inl x3), some (.inl x4), some (.inl x5)] [.inl (2 : Int32), .inl v8] (by decide +kernel) rfl ?_
        refine s_ic_eq (tgt := 89) (off := 45) (by decide +kernel) (by decide) (fun h9 => ?_) (fun h9 => ?_)
        · skip
          refine s_run (b := [(.iinc 5 1, 3), (.goto (-84), 3)]) 8 [some (.inr (.inr x0)), some (.inr (.inr x1)), some (.inl x2), some (.inl x3), some (.inl x4), some (.inl (x5 + (1 : Int32)))] [] (by decide +kernel) rfl ?_
          exact s_lsub (ls' := [some (.inr (.inr x0)), some (.inr (.inr x1)), some (.inl x2), some (.inl x3), some (.inl x4), some (.inl (x5 + (1 : Int32)))]) ⟨rfl, ⟨rfl, ⟨rfl, ⟨rfl, ⟨rfl, ⟨rfl, trivial⟩⟩⟩⟩⟩⟩ (kk1 (x5 + (1 : Int32)) M)
        · skip
          refine s_run (b := [(.aload_n 0, 1)]) 48 [some (.inr (.inr x0)), some (.inr (.inr x1)), some (.inl x2), some (.inl x3), some (.inl x4), some (.inl x5)] [.inr (.inr x0)] (by decide +kernel) rfl ?_
          refine s_gR fl_10_11 rfl (by decide +kernel) (fun v10 => ?_)
          refine s_run (b := [(.aload_n 0, 1)]) 52 [some (.inr (.inr x0)), some (.inr (.inr x1)), some (.inl x2), some (.inl x3), some (.inl x4), some (.inl x5)] [.inr (.inr x0), .inr (.inr v10)] (by decide +kernel) rfl ?_
          refine s_gI fl_10_24 rfl (by decide +kernel) (fun v11 => ?_)
          refine s_run (b := [(.aload_n 1, 1), (.iload 5, 2), (.iload_n 2, 1)]) 59 [some (.inr (.inr x0)), some (.inr (.inr x1)), some (.inl x2), some (.inl x3), some (.inl x4), some (.inl x5)] [.inl x2, .inl x5, .inr (.inr x1), .inl v11, .inr (.inr v10)] (by decide +kernel) rfl ?_
          refine s_cV (Z := Y_X5_gap) (c := 5) (vs := [.inl x5, .inl x2]) (st := [.inl v11, .inr (.inr v10)]) (rO := fun z => some (.inl z)) (mO := fun _ => M) zk_X5_gap zi_X5_gap q913 rfl ⟨by decide, by decide⟩ ⟨rfl, rfl⟩ rfl rfl (Nat.le_of_ble_eq_true rfl) (by decide +kernel) (fun z hz => c_X5_gap hz) (fun v12 => ?_)
          change Sim l G Y_X10_begin lim _ _ 62 [some (.inr (.inr x0)), some (.inr (.inr x1)), some (.inl x2), some (.inl x3), some (.inl x4), some (.inl x5)] [.inl v12, .inl v11, .inr (.inr v10)] M
          refine s_is (by decide +kernel) (fun M13 => ?_)
          refine s_run (b := [(.aload_n 0, 1)]) 64 [some (.inr (.inr x0)), some (.inr (.inr x1)), some (.inl x2), some (.inl x3), some (.inl x4), some (.inl x5)] [.inr (.inr x0)] (by decide +kernel) rfl ?_
          refine s_gR fl_10_15 rfl (by decide +kernel) (fun v14 => ?_)
          refine s_run (b := [(.aload_n 0, 1)]) 68 [some (.inr (.inr x0)), some (.inr (.inr x1)), some (.inl x2), some (.inl x3), some (.inl x4), some (.inl x5)] [.inr (.inr x0), .inr (.inr v14)] (by decide +kernel) rfl ?_
          refine s_gI fl_10_24 rfl (by decide +kernel) (fun v15 => ?_)
          refine s_run (b := [(.aload_n 1, 1)]) 72 [some (.inr (.inr x0)), some (.inr (.inr x1)), some (.inl x2), some (.inl x3), some (.inl x4), some (.inl x5)] [.inr (.inr x1), .inl v15, .inr (.inr v14)] (by decide +kernel) rfl ?_
          refine s_gR fl_10_44 rfl (by decide +kernel) (fun v16 => ?_)
          refine s_run (b := [(.iload 5, 2)]) 77 [some (.inr (.inr x0)), some (.inr (.inr x1)), some (.inl x2), some (.inl x3), some (.inl x4), some (.inl x5)] [.inl x5, .inr (.inr v16), .inl v15, .inr (.inr v14)] (by decide +kernel) rfl ?_
          refine s_ia (by decide +kernel) (fun v17 => ?_)
          refine s_is (by decide +kernel) (fun M18 => ?_)
          refine s_run (b := [(.aload_n 0, 1), (.dup, 1)]) 81 [some (.inr (.inr x0)), some (.inr (.inr x1)), some (.inl x2), some (.inl x3), some (.inl x4), some (.inl x5)] [.inr (.inr x0), .inr (.inr x0)] (by decide +kernel) rfl ?_
          refine s_gI fl_10_24 rfl (by decide +kernel) (fun v19 => ?_)
          refine s_run (b := [(.iconst 1, 1), (.iadd, 1)]) 86 [some (.inr (.inr x0)), some (.inr (.inr x1)), some (.inl x2), some (.inl x3), some (.inl x4), some (.inl x5)] [.inl (v19 + (1 : Int32)), .inr (.inr x0)] (by decide +kernel) rfl ?_
          refine s_pI fl_10_24 (Or.inl rfl) rfl (by decide +kernel) (fun M20 => ?_)
          refine s_run (b := [(.iinc 5 1, 3), (.goto (-84), 3)]) 8 [some (.inr (.inr x0)), some (.inr (.inr x1)), some (.inl x2), some (.inl x3), some (.inl x4), some (.inl (x5 + (1 : Int32)))] [] (by decide +kernel) rfl ?_
          exact s_lsub (ls' := [some (.inr (.inr x0)), some (.inr (.inr x1)), some (.inl x2), some (.inl x3), some (.inl x4), some (.inl (x5 + (1 : Int32)))]) ⟨rfl, ⟨rfl, ⟨rfl, ⟨rfl, ⟨rfl, ⟨rfl, trivial⟩⟩⟩⟩⟩⟩ (kk1 (x5 + (1 : Int32)) M20)
set_option maxRecDepth 20000 in
theorem L_X10_begin_8 {l : Launch} {G : Gv} {lim : Nat × Nat} (M : Mem) (x0 : Nat) (x1 : Nat) (x2 : Int32) (x3 : Int32) (x4 : Int32) (x5 : Int32) (K : ((Mem)) → Option (Option Value × Mem)) (kk2_0 : ∀ r : Mem, SimR l G Y_X10_begin lim (K r) 95 [some (.inr (.inr x0)), some (.inr (.inr x1)), none, some (.inl x3), none, none] [] r) : Sim l G Y_X10_begin lim (f_X10_begin_L8 M x0 x1 x2 x3 x4 x5) K 8 [some (.inr (.inr x0)), some (.inr (.inr x1)), some (.inl x2), some (.inl x3), some (.inl x4), some (.inl x5)] [] M :=
  s_iter (f := fun s : Int32 × Mem => f_X10_begin_B8 s.2 x0 x1 x2 x3 x4 s.1) (hd := 8) (cl := fun s => [some (.inr (.inr x0)), some (.inr (.inr x1)), some (.inl x2), some (.inl x3), some (.inl x4), some (.inl s.1)]) (cm := fun s => s.2) (xp := fun _ => 95) (xl := fun r => [some (.inr (.inr x0)), some (.inr (.inr x1)), none, some (.inl x3), none, none]) (xm := fun r => r) (fun s K h1 h2 => B_X10_begin_8 s.2 x0 x1 x2 x3 x4 s.1 K (fun a5 a_ => h1 (a5, a_)) (fun a_ => h2 a_)) 1048576 (x5, M) K kk2_0
def f_X10_begin_B98 (M : Mem) (x0 : Nat) (x1 : Nat) (x3 : Int32) (x5 : Int32) : Option ((Int32 × Mem) ⊕ ((Mem))) :=
  (if (3 : Int32) < x5 then
    some (.inr M)
  else
    (gR M 10 x0 3).bind fun v2 =>
    (ob M 5 x1).bind fun _ => (f_X5_faded M x1 x3 x5).bind fun v3 =>
    (sI M 0 v2 x5 v3).bind fun M4 =>
    some (.inl ((x5 + (1 : Int32)), M4)))
def f_X10_begin_L98 (M : Mem) (x0 : Nat) (x1 : Nat) (x3 : Int32) (x5 : Int32) : Option ((Mem)) := iter (fun s : Int32 × Mem => f_X10_begin_B98 s.2 x0 x1 x3 s.1) 1048576 (x5, M)
set_option maxRecDepth 20000 in
theorem B_X10_begin_98 {l : Launch} {G : Gv} {lim : Nat × Nat} (M : Mem) (x0 : Nat) (x1 : Nat) (x3 : Int32) (x5 : Int32) (K : (Int32 × Mem) ⊕ ((Mem)) → Option (Option Value × Mem)) (kk1 : ∀ (s5 : Int32) (s_ : Mem), SimR l G Y_X10_begin lim (K (.inl (s5, s_))) 98 [some (.inr (.inr x0)), some (.inr (.inr x1)), none, some (.inl x3), none, some (.inl s5)] [] s_) (kk2_0 : ∀ (s_ : Mem), SimR l G Y_X10_begin lim (K (.inr s_)) 124 [some (.inr (.inr x0)), none, none, none, none, none] [] s_) : Sim l G Y_X10_begin lim (f_X10_begin_B98 M x0 x1 x3 x5) K 98 [some (.inr (.inr x0)), some (.inr (.inr x1)), none, some (.inl x3), none, some (.inl x5)] [] M := by
  unfold f_X10_begin_B98
  refine s_run (b := [(.iload 5, 2), (.iconst 3, 1)]) 101 [some (.inr (.inr x0)), some (.inr (.inr x1)), none, some (.inl x3), none, some (.inl x5)] [.inl (3 : Int32), .inl x5] (by decide +kernel) rfl ?_
  refine s_ic_gt (tgt := 124) (off := 23) (by decide +kernel) (by decide) (fun h1 => ?_) (fun h1 => ?_)
  · skip
    exact s_lsub (ls' := [some (.inr (.inr x0)), none, none, none, none, none]) ⟨rfl, trivial⟩ (kk2_0 M)
  · skip
    refine s_run (b := [(.aload_n 0, 1)]) 105 [some (.inr (.inr x0)), some (.inr (.inr x1)), none, some (.inl x3), none, some (.inl x5)] [.inr (.inr x0)] (by decide +kernel) rfl ?_
    refine s_gR fl_10_18 rfl (by decide +kernel) (fun v2 => ?_)
    refine s_run (b := [(.iload 5, 2), (.aload_n 1, 1), (.iload_n 3, 1), (.iload 5, 2)]) 114 [some (.inr (.inr x0)), some (.inr (.inr x1)), none, some (.inl x3), none, some (.inl x5)] [.inl x5, .inl x3, .inr (.inr x1), .inl x5, .inr (.inr v2)] (by decide +kernel) rfl ?_
    refine s_cV (Z := Y_X5_faded) (c := 5) (vs := [.inl x3, .inl x5]) (st := [.inl x5, .inr (.inr v2)]) (rO := fun z => some (.inl z)) (mO := fun _ => M) zk_X5_faded zi_X5_faded q914 rfl ⟨by decide, by decide⟩ ⟨rfl, rfl⟩ rfl rfl (Nat.le_of_ble_eq_true rfl) (by decide +kernel) (fun z hz => c_X5_faded hz) (fun v3 => ?_)
    change Sim l G Y_X10_begin lim _ _ 117 [some (.inr (.inr x0)), some (.inr (.inr x1)), none, some (.inl x3), none, some (.inl x5)] [.inl v3, .inl x5, .inr (.inr v2)] M
    refine s_is (by decide +kernel) (fun M4 => ?_)
    refine s_run (b := [(.iinc 5 1, 3), (.goto (-23), 3)]) 98 [some (.inr (.inr x0)), some (.inr (.inr x1)), none, some (.inl x3), none, some (.inl (x5 + (1 : Int32)))] [] (by decide +kernel) rfl ?_
    exact s_lsub (ls' := [some (.inr (.inr x0)), some (.inr (.inr x1)), none, some (.inl x3), none, some (.inl (x5 + (1 : Int32)))]) ⟨rfl, ⟨rfl, ⟨rfl, ⟨rfl, trivial⟩⟩⟩⟩ (kk1 (x5 + (1 : Int32)) M4)
set_option maxRecDepth 20000 in
theorem L_X10_begin_98 {l : Launch} {G : Gv} {lim : Nat × Nat} (M : Mem) (x0 : Nat) (x1 : Nat) (x3 : Int32) (x5 : Int32) (K : ((Mem)) → Option (Option Value × Mem)) (kk2_0 : ∀ r : Mem, SimR l G Y_X10_begin lim (K r) 124 [some (.inr (.inr x0)), none, none, none, none, none] [] r) : Sim l G Y_X10_begin lim (f_X10_begin_L98 M x0 x1 x3 x5) K 98 [some (.inr (.inr x0)), some (.inr (.inr x1)), none, some (.inl x3), none, some (.inl x5)] [] M :=
  s_iter (f := fun s : Int32 × Mem => f_X10_begin_B98 s.2 x0 x1 x3 s.1) (hd := 98) (cl := fun s => [some (.inr (.inr x0)), some (.inr (.inr x1)), none, some (.inl x3), none, some (.inl s.1)]) (cm := fun s => s.2) (xp := fun _ => 124) (xl := fun r => [some (.inr (.inr x0)), none, none, none, none, none]) (xm := fun r => r) (fun s K h1 h2 => B_X10_begin_98 s.2 x0 x1 x3 s.1 K (fun a5 a_ => h1 (a5, a_)) (fun a_ => h2 a_)) 1048576 (x5, M) K kk2_0
def f_X10_begin (M : Mem) (x0 : Nat) (x1 : Nat) (x2 : Int32) (x3 : Int32) (x4 : Int32) : Option (Mem) :=
  (pI M 10 x0 0 (0 : Int32)).bind fun M1 =>
  (f_X10_begin_L8 M1 x0 x1 x2 x3 x4 (0 : Int32)).bind fun r2 =>
  (f_X10_begin_L98 r2 x0 x1 x3 (1 : Int32)).bind fun r3 =>
  (ob r3 10 x0).bind fun _ => (f_X10_findFamilies r3 x0).bind fun z4 =>
  some z4
set_option maxRecDepth 20000 in
theorem S_X10_begin {l : Launch} {G : Gv} {lim : Nat × Nat} (M : Mem) (x0 : Nat) (x1 : Nat) (x2 : Int32) (x3 : Int32) (x4 : Int32) : Sim l G Y_X10_begin lim (f_X10_begin M x0 x1 x2 x3 x4) (fun z => some (none, z)) 0 [some (.inr (.inr x0)), some (.inr (.inr x1)), some (.inl x2), some (.inl x3), some (.inl x4), none] [] M := by
  unfold f_X10_begin
  refine s_run (b := [(.aload_n 0, 1), (.iconst 0, 1)]) 2 [some (.inr (.inr x0)), some (.inr (.inr x1)), some (.inl x2), some (.inl x3), some (.inl x4), none] [.inl (0 : Int32), .inr (.inr x0)] (by decide +kernel) rfl ?_
  refine s_pI fl_10_24 (Or.inl rfl) rfl (by decide +kernel) (fun M1 => ?_)
  refine s_run (b := [(.iconst 0, 1), (.istore 5, 2)]) 8 [some (.inr (.inr x0)), some (.inr (.inr x1)), some (.inl x2), some (.inl x3), some (.inl x4), some (.inl (0 : Int32))] [] (by decide +kernel) rfl ?_
  refine s_lsub (ls' := [some (.inr (.inr x0)), some (.inr (.inr x1)), some (.inl x2), some (.inl x3), some (.inl x4), some (.inl (0 : Int32))]) ⟨rfl, ⟨rfl, ⟨rfl, ⟨rfl, ⟨rfl, ⟨rfl, trivial⟩⟩⟩⟩⟩⟩ ?_
  refine sim_bind (L_X10_begin_8 M1 x0 x1 x2 x3 x4 (0 : Int32) _ (fun r2 => ?_))
  change Sim l G Y_X10_begin lim _ _ 95 [some (.inr (.inr x0)), some (.inr (.inr x1)), none, some (.inl x3), none, none] [] r2
  refine s_run (b := [(.iconst 1, 1), (.istore 5, 2)]) 98 [some (.inr (.inr x0)), some (.inr (.inr x1)), none, some (.inl x3), none, some (.inl (1 : Int32))] [] (by decide +kernel) rfl ?_
  refine s_lsub (ls' := [some (.inr (.inr x0)), some (.inr (.inr x1)), none, some (.inl x3), none, some (.inl (1 : Int32))]) ⟨rfl, ⟨rfl, ⟨rfl, ⟨rfl, trivial⟩⟩⟩⟩ ?_
  refine sim_bind (L_X10_begin_98 r2 x0 x1 x3 (1 : Int32) _ (fun r3 => ?_))
  change Sim l G Y_X10_begin lim _ _ 124 [some (.inr (.inr x0)), none, none, none, none, none] [] r3
  refine s_run (b := [(.aload_n 0, 1)]) 125 [some (.inr (.inr x0)), none, none, none, none, none] [.inr (.inr x0)] (by decide +kernel) rfl ?_
  refine s_cV (Z := Y_X10_findFamilies) (c := 10) (vs := []) (st := []) (rO := fun _ => none) (mO := fun z => z) zk_X10_findFamilies zi_X10_findFamilies q915 rfl ⟨by decide, by decide⟩ ⟨rfl, rfl⟩ rfl rfl (Nat.le_of_ble_eq_true rfl) (by decide +kernel) (fun z hz => c_X10_findFamilies hz) (fun z4 => ?_)
  change Sim l G Y_X10_begin lim _ _ 128 [some (.inr (.inr x0)), none, none, none, none, none] [] z4
  exact s_vret (by decide +kernel) rfl
set_option maxRecDepth 20000 in
theorem c_X10_begin {l : Launch} {G : Gv} {M : Mem} {x0 : Nat} {x1 : Nat} {x2 : Int32} {x3 : Int32} {x4 : Int32} {z : Mem} (h : f_X10_begin M x0 x1 x2 x3 x4 = some z) : MetS l G Y_X10_begin [.inr (.inr x0), .inr (.inr x1), .inl x2, .inl x3, .inl x4] M none z :=
  met_of (ls0 := [some (.inr (.inr x0)), some (.inr (.inr x1)), some (.inl x2), some (.inl x3), some (.inl x4), none]) (by decide) rfl (lv_in (m := 1) rfl) (sl_le (Nat.le_of_ble_eq_true rfl)) (by rw [h]; rfl) (Or.inl ⟨rfl, rfl⟩) (S_X10_begin M x0 x1 x2 x3 x4)
def f_X10_quickest (M : Mem) (x0 : Nat) : Option (Int32) :=
  (gI M 10 x0 6).bind fun v1 =>
  (if v1 = 0 then
    some (-1 : Int32)
  else
    some (1 : Int32))
set_option maxRecDepth 20000 in
theorem S_X10_quickest {l : Launch} {G : Gv} {lim : Nat × Nat} (M : Mem) (x0 : Nat) : Sim l G Y_X10_quickest lim (f_X10_quickest M x0) (fun z => some (some (.int z), M)) 0 [some (.inr (.inr x0))] [] M := by
  unfold f_X10_quickest
  refine s_run (b := [(.aload_n 0, 1)]) 1 [some (.inr (.inr x0))] [.inr (.inr x0)] (by decide +kernel) rfl ?_
  refine s_gI fl_10_56 rfl (by decide +kernel) (fun v1 => ?_)
  refine s_if_eq (tgt := 11) (off := 7) (by decide +kernel) (by decide) (fun h2 => ?_) (fun h2 => ?_)
  · skip
    refine s_run (b := [(.iconst (-1), 1)]) 12 [some (.inr (.inr x0))] [.inl (-1 : Int32)] (by decide +kernel) rfl ?_
    exact s_iret (by decide +kernel) rfl
  · skip
    refine s_run (b := [(.iconst 1, 1), (.goto 4, 3)]) 12 [some (.inr (.inr x0))] [.inl (1 : Int32)] (by decide +kernel) rfl ?_
    exact s_iret (by decide +kernel) rfl
set_option maxRecDepth 20000 in
theorem c_X10_quickest {l : Launch} {G : Gv} {M : Mem} {x0 : Nat} {z : Int32} (h : f_X10_quickest M x0 = some z) : MetS l G Y_X10_quickest [.inr (.inr x0)] M (some (.int z)) M :=
  met_of (ls0 := [some (.inr (.inr x0))]) (by decide) rfl (lv_in (m := 0) rfl) (sl_le (Nat.le_of_ble_eq_true rfl)) (by rw [h]; rfl) (Or.inl ⟨rfl, rfl⟩) (S_X10_quickest M x0)
def f_X11_fewer (M : Mem) (x0 : Nat) (x1 : Int32) (x2 : Int32) (x3 : Int32) (x4 : Int32) : Option (Int32 × Mem) :=
  (gR M 11 x0 0).bind fun v1 =>
  (ob M 9 v1).bind fun _ => (f_X9_officeAt M v1 x1).bind fun v2 =>
  (if v2 = 0 then
    some ((-1 : Int32), M)
  else
    (ob M 5 v2).bind fun _ => (f_X5_hasDesk M v2 x2).bind fun v4 =>
    (if v4 = 0 then
      some ((-1 : Int32), M)
    else
      (if x3 < 0 then
        some ((-1 : Int32), M)
      else
        (if (99 : Int32) < x3 then
          some ((-1 : Int32), M)
        else
          (if x4 < 0 then
            some ((-1 : Int32), M)
          else
            (if x4 ≤ (8 : Int32) then
              (gR M 11 x0 7).bind fun v10 =>
              (ob M 10 v10).bind fun _ => (f_X10_begin M v10 v2 x2 x3 x4).bind fun z11 =>
              (gR z11 11 x0 7).bind fun v12 =>
              (ob z11 10 v12).bind fun _ => (f_X10_quickest z11 v12).bind fun v13 =>
              some (v13, z11)
            else
              some ((-1 : Int32), M)))))))
set_option maxRecDepth 20000 in
theorem S_X11_fewer {l : Launch} {G : Gv} {lim : Nat × Nat} (M : Mem) (x0 : Nat) (x1 : Int32) (x2 : Int32) (x3 : Int32) (x4 : Int32) : Sim l G Y_X11_fewer lim (f_X11_fewer M x0 x1 x2 x3 x4) (fun z => some (some (.int z.1), z.2)) 0 [some (.inr (.inr x0)), some (.inl x1), some (.inl x2), some (.inl x3), some (.inl x4), none] [] M := by
  unfold f_X11_fewer
  refine s_run (b := [(.aload_n 0, 1)]) 1 [some (.inr (.inr x0)), some (.inl x1), some (.inl x2), some (.inl x3), some (.inl x4), none] [.inr (.inr x0)] (by decide +kernel) rfl ?_
  refine s_gR fl_11_10 rfl (by decide +kernel) (fun v1 => ?_)
  refine s_run (b := [(.iload_n 1, 1)]) 5 [some (.inr (.inr x0)), some (.inl x1), some (.inl x2), some (.inl x3), some (.inl x4), none] [.inl x1, .inr (.inr v1)] (by decide +kernel) rfl ?_
  refine s_cV (Z := Y_X9_officeAt) (c := 9) (vs := [.inl x1]) (st := []) (rO := fun z => some (.inr (.inr z))) (mO := fun _ => M) zk_X9_officeAt zi_X9_officeAt q716 rfl ⟨by decide, by decide⟩ ⟨rfl, rfl⟩ rfl rfl (Nat.le_of_ble_eq_true rfl) (by decide +kernel) (fun z hz => c_X9_officeAt hz) (fun v2 => ?_)
  change Sim l G Y_X11_fewer lim _ _ 8 [some (.inr (.inr x0)), some (.inl x1), some (.inl x2), some (.inl x3), some (.inl x4), none] [.inr (.inr v2)] M
  refine s_run (b := [(.astore 5, 2), (.aload 5, 2)]) 12 [some (.inr (.inr x0)), some (.inl x1), some (.inl x2), some (.inl x3), some (.inl x4), some (.inr (.inr v2))] [.inr (.inr v2)] (by decide +kernel) rfl ?_
  refine s_ifnull (tgt := 46) (off := 34) (by decide +kernel) (by decide) (fun h3 => ?_) (fun h3 => ?_)
  · skip
    refine s_run (b := [(.iconst (-1), 1)]) 47 [some (.inr (.inr x0)), some (.inl x1), some (.inl x2), some (.inl x3), some (.inl x4), some (.inr (.inr v2))] [.inl (-1 : Int32)] (by decide +kernel) rfl ?_
    exact s_iret (by decide +kernel) rfl
  · skip
    refine s_run (b := [(.aload 5, 2), (.iload_n 2, 1)]) 18 [some (.inr (.inr x0)), some (.inl x1), some (.inl x2), some (.inl x3), some (.inl x4), some (.inr (.inr v2))] [.inl x2, .inr (.inr v2)] (by decide +kernel) rfl ?_
    refine s_cV (Z := Y_X5_hasDesk) (c := 5) (vs := [.inl x2]) (st := []) (rO := fun z => some (.inl z)) (mO := fun _ => M) zk_X5_hasDesk zi_X5_hasDesk q845 rfl ⟨by decide, by decide⟩ ⟨rfl, rfl⟩ rfl rfl (Nat.le_of_ble_eq_true rfl) (by decide +kernel) (fun z hz => c_X5_hasDesk hz) (fun v4 => ?_)
    change Sim l G Y_X11_fewer lim _ _ 21 [some (.inr (.inr x0)), some (.inl x1), some (.inl x2), some (.inl x3), some (.inl x4), some (.inr (.inr v2))] [.inl v4] M
    refine s_if_eq (tgt := 46) (off := 25) (by decide +kernel) (by decide) (fun h5 => ?_) (fun h5 => ?_)
    · skip
      refine s_run (b := [(.iconst (-1), 1)]) 47 [some (.inr (.inr x0)), some (.inl x1), some (.inl x2), some (.inl x3), some (.inl x4), some (.inr (.inr v2))] [.inl (-1 : Int32)] (by decide +kernel) rfl ?_
      exact s_iret (by decide +kernel) rfl
    · skip
      refine s_run (b := [(.iload_n 3, 1)]) 25 [some (.inr (.inr x0)), some (.inl x1), some (.inl x2), some (.inl x3), some (.inl x4), some (.inr (.inr v2))] [.inl x3] (by decide +kernel) rfl ?_
      refine s_if_lt (tgt := 46) (off := 21) (by decide +kernel) (by decide) (fun h6 => ?_) (fun h6 => ?_)
      · skip
        refine s_run (b := [(.iconst (-1), 1)]) 47 [some (.inr (.inr x0)), some (.inl x1), some (.inl x2), some (.inl x3), some (.inl x4), some (.inr (.inr v2))] [.inl (-1 : Int32)] (by decide +kernel) rfl ?_
        exact s_iret (by decide +kernel) rfl
      · skip
        refine s_run (b := [(.iload_n 3, 1), (.bipush 99, 2)]) 31 [some (.inr (.inr x0)), some (.inl x1), some (.inl x2), some (.inl x3), some (.inl x4), some (.inr (.inr v2))] [.inl (99 : Int32), .inl x3] (by decide +kernel) rfl ?_
        refine s_ic_gt (tgt := 46) (off := 15) (by decide +kernel) (by decide) (fun h7 => ?_) (fun h7 => ?_)
        · skip
          refine s_run (b := [(.iconst (-1), 1)]) 47 [some (.inr (.inr x0)), some (.inl x1), some (.inl x2), some (.inl x3), some (.inl x4), some (.inr (.inr v2))] [.inl (-1 : Int32)] (by decide +kernel) rfl ?_
          exact s_iret (by decide +kernel) rfl
        · skip
          refine s_run (b := [(.iload 4, 2)]) 36 [some (.inr (.inr x0)), some (.inl x1), some (.inl x2), some (.inl x3), some (.inl x4), some (.inr (.inr v2))] [.inl x4] (by decide +kernel) rfl ?_
          refine s_if_lt (tgt := 46) (off := 10) (by decide +kernel) (by decide) (fun h8 => ?_) (fun h8 => ?_)
          · skip
            refine s_run (b := [(.iconst (-1), 1)]) 47 [some (.inr (.inr x0)), some (.inl x1), some (.inl x2), some (.inl x3), some (.inl x4), some (.inr (.inr v2))] [.inl (-1 : Int32)] (by decide +kernel) rfl ?_
            exact s_iret (by decide +kernel) rfl
          · skip
            refine s_run (b := [(.iload 4, 2), (.bipush 8, 2)]) 43 [some (.inr (.inr x0)), some (.inl x1), some (.inl x2), some (.inl x3), some (.inl x4), some (.inr (.inr v2))] [.inl (8 : Int32), .inl x4] (by decide +kernel) rfl ?_
            refine s_ic_le (tgt := 48) (off := 5) (by decide +kernel) (by decide) (fun h9 => ?_) (fun h9 => ?_)
            · skip
              refine s_run (b := [(.aload_n 0, 1)]) 49 [some (.inr (.inr x0)), some (.inl x1), some (.inl x2), some (.inl x3), some (.inl x4), some (.inr (.inr v2))] [.inr (.inr x0)] (by decide +kernel) rfl ?_
              refine s_gR fl_11_55 rfl (by decide +kernel) (fun v10 => ?_)
              refine s_run (b := [(.aload 5, 2), (.iload_n 2, 1), (.iload_n 3, 1), (.iload 4, 2)]) 58 [some (.inr (.inr x0)), some (.inl x1), some (.inl x2), some (.inl x3), some (.inl x4), some (.inr (.inr v2))] [.inl x4, .inl x3, .inl x2, .inr (.inr v2), .inr (.inr v10)] (by decide +kernel) rfl ?_
              refine s_cV (Z := Y_X10_begin) (c := 10) (vs := [.inr (.inr v2), .inl x2, .inl x3, .inl x4]) (st := []) (rO := fun _ => none) (mO := fun z => z) zk_X10_begin zi_X10_begin q905 rfl ⟨by decide, by decide⟩ ⟨rfl, rfl⟩ rfl rfl (Nat.le_of_ble_eq_true rfl) (by decide +kernel) (fun z hz => c_X10_begin hz) (fun z11 => ?_)
              change Sim l G Y_X11_fewer lim _ _ 61 [some (.inr (.inr x0)), some (.inl x1), some (.inl x2), some (.inl x3), some (.inl x4), some (.inr (.inr v2))] [] z11
              refine s_run (b := [(.aload_n 0, 1)]) 62 [some (.inr (.inr x0)), some (.inl x1), some (.inl x2), some (.inl x3), some (.inl x4), some (.inr (.inr v2))] [.inr (.inr x0)] (by decide +kernel) rfl ?_
              refine s_gR fl_11_55 rfl (by decide +kernel) (fun v12 => ?_)
              refine s_cV (Z := Y_X10_quickest) (c := 10) (vs := []) (st := []) (rO := fun z => some (.inl z)) (mO := fun _ => z11) zk_X10_quickest zi_X10_quickest q948 rfl ⟨by decide, by decide⟩ ⟨rfl, rfl⟩ rfl rfl (Nat.le_of_ble_eq_true rfl) (by decide +kernel) (fun z hz => c_X10_quickest hz) (fun v13 => ?_)
              change Sim l G Y_X11_fewer lim _ _ 68 [some (.inr (.inr x0)), some (.inl x1), some (.inl x2), some (.inl x3), some (.inl x4), some (.inr (.inr v2))] [.inl v13] z11
              exact s_iret (by decide +kernel) rfl
            · skip
              refine s_run (b := [(.iconst (-1), 1)]) 47 [some (.inr (.inr x0)), some (.inl x1), some (.inl x2), some (.inl x3), some (.inl x4), some (.inr (.inr v2))] [.inl (-1 : Int32)] (by decide +kernel) rfl ?_
              exact s_iret (by decide +kernel) rfl
set_option maxRecDepth 20000 in
theorem c_X11_fewer {l : Launch} {G : Gv} {M : Mem} {x0 : Nat} {x1 : Int32} {x2 : Int32} {x3 : Int32} {x4 : Int32} {z : Int32 × Mem} (h : f_X11_fewer M x0 x1 x2 x3 x4 = some z) : MetS l G Y_X11_fewer [.inr (.inr x0), .inl x1, .inl x2, .inl x3, .inl x4] M (some (.int z.1)) z.2 :=
  met_of (ls0 := [some (.inr (.inr x0)), some (.inl x1), some (.inl x2), some (.inl x3), some (.inl x4), none]) (by decide) rfl (lv_in (m := 1) rfl) (sl_le (Nat.le_of_ble_eq_true rfl)) (by rw [h]; rfl) (Or.inl ⟨rfl, rfl⟩) (S_X11_fewer M x0 x1 x2 x3 x4)
def f_X8_mostAlike_B2 (M : Mem) (x0 : Nat) (x1 : Int32) (x2 : Int32) : Option ((Int32 × Mem) ⊕ ((Mem))) :=
  (if (8 : Int32) < x2 then
    some (.inr M)
  else
    (gR M 8 x0 4).bind fun v2 =>
    (sI M 0 v2 x2 (0 : Int32)).bind fun M3 =>
    some (.inl ((x2 + (1 : Int32)), M3)))
def f_X8_mostAlike_L2 (M : Mem) (x0 : Nat) (x1 : Int32) (x2 : Int32) : Option ((Mem)) := iter (fun s : Int32 × Mem => f_X8_mostAlike_B2 s.2 x0 x1 s.1) 1048576 (x2, M)
set_option maxRecDepth 20000 in
theorem B_X8_mostAlike_2 {l : Launch} {G : Gv} {lim : Nat × Nat} (M : Mem) (x0 : Nat) (x1 : Int32) (x2 : Int32) (K : (Int32 × Mem) ⊕ ((Mem)) → Option (Option Value × Mem)) (kk1 : ∀ (s2 : Int32) (s_ : Mem), SimR l G Y_X8_mostAlike lim (K (.inl (s2, s_))) 2 [some (.inr (.inr x0)), some (.inl x1), some (.inl s2), none, none] [] s_) (kk2_0 : ∀ (s_ : Mem), SimR l G Y_X8_mostAlike lim (K (.inr s_)) 21 [some (.inr (.inr x0)), some (.inl x1), none, none, none] [] s_) : Sim l G Y_X8_mostAlike lim (f_X8_mostAlike_B2 M x0 x1 x2) K 2 [some (.inr (.inr x0)), some (.inl x1), some (.inl x2), none, none] [] M := by
  unfold f_X8_mostAlike_B2
  refine s_run (b := [(.iload_n 2, 1), (.bipush 8, 2)]) 5 [some (.inr (.inr x0)), some (.inl x1), some (.inl x2), none, none] [.inl (8 : Int32), .inl x2] (by decide +kernel) rfl ?_
  refine s_ic_gt (tgt := 21) (off := 16) (by decide +kernel) (by decide) (fun h1 => ?_) (fun h1 => ?_)
  · skip
    exact s_lsub (ls' := [some (.inr (.inr x0)), some (.inl x1), none, none, none]) ⟨rfl, ⟨rfl, trivial⟩⟩ (kk2_0 M)
  · skip
    refine s_run (b := [(.aload_n 0, 1)]) 9 [some (.inr (.inr x0)), some (.inl x1), some (.inl x2), none, none] [.inr (.inr x0)] (by decide +kernel) rfl ?_
    refine s_gR fl_8_29 rfl (by decide +kernel) (fun v2 => ?_)
    refine s_run (b := [(.iload_n 2, 1), (.iconst 0, 1)]) 14 [some (.inr (.inr x0)), some (.inl x1), some (.inl x2), none, none] [.inl (0 : Int32), .inl x2, .inr (.inr v2)] (by decide +kernel) rfl ?_
    refine s_is (by decide +kernel) (fun M3 => ?_)
    refine s_run (b := [(.iinc 2 1, 3), (.goto (-16), 3)]) 2 [some (.inr (.inr x0)), some (.inl x1), some (.inl (x2 + (1 : Int32))), none, none] [] (by decide +kernel) rfl ?_
    exact s_lsub (ls' := [some (.inr (.inr x0)), some (.inl x1), some (.inl (x2 + (1 : Int32))), none, none]) ⟨rfl, ⟨rfl, ⟨rfl, trivial⟩⟩⟩ (kk1 (x2 + (1 : Int32)) M3)
set_option maxRecDepth 20000 in
theorem L_X8_mostAlike_2 {l : Launch} {G : Gv} {lim : Nat × Nat} (M : Mem) (x0 : Nat) (x1 : Int32) (x2 : Int32) (K : ((Mem)) → Option (Option Value × Mem)) (kk2_0 : ∀ r : Mem, SimR l G Y_X8_mostAlike lim (K r) 21 [some (.inr (.inr x0)), some (.inl x1), none, none, none] [] r) : Sim l G Y_X8_mostAlike lim (f_X8_mostAlike_L2 M x0 x1 x2) K 2 [some (.inr (.inr x0)), some (.inl x1), some (.inl x2), none, none] [] M :=
  s_iter (f := fun s : Int32 × Mem => f_X8_mostAlike_B2 s.2 x0 x1 s.1) (hd := 2) (cl := fun s => [some (.inr (.inr x0)), some (.inl x1), some (.inl s.1), none, none]) (cm := fun s => s.2) (xp := fun _ => 21) (xl := fun r => [some (.inr (.inr x0)), some (.inl x1), none, none, none]) (xm := fun r => r) (fun s K h1 h2 => B_X8_mostAlike_2 s.2 x0 x1 s.1 K (fun a2 a_ => h1 (a2, a_)) (fun a_ => h2 a_)) 1048576 (x2, M) K kk2_0
def f_X8_mostAlike_J89 (M : Mem) (x0 : Nat) (x1 : Int32) (x2 : Int32) (x3 : Int32) (y0 : Int32) : Option ((Int32 × Int32 × Mem) ⊕ ((Int32 × Mem))) :=
  (gR M 8 x0 4).bind fun v1 =>
  (aI M 0 v1 y0).bind fun v2 =>
  (sI M 0 v1 y0 (v2 + (1 : Int32))).bind fun M3 =>
  (gR M3 8 x0 4).bind fun v4 =>
  (aI M3 0 v4 y0).bind fun v5 =>
  some (.inl ((imax x2 v5), (x3 + (1 : Int32)), M3))
set_option maxRecDepth 20000 in
theorem J_X8_mostAlike_89 {l : Launch} {G : Gv} {lim : Nat × Nat} (M : Mem) (x0 : Nat) (x1 : Int32) (x2 : Int32) (x3 : Int32) (y0 : Int32) (K : (Int32 × Int32 × Mem) ⊕ ((Int32 × Mem)) → Option (Option Value × Mem)) (kk1 : ∀ (s2 : Int32) (s3 : Int32) (s_ : Mem), SimR l G Y_X8_mostAlike lim (K (.inl (s2, s3, s_))) 25 [some (.inr (.inr x0)), some (.inl x1), some (.inl s2), some (.inl s3), none] [] s_) (kk2_0 : ∀ (s2 : Int32) (s_ : Mem), SimR l G Y_X8_mostAlike lim (K (.inr (s2, s_))) 120 [none, none, some (.inl s2), none, none] [] s_) : Sim l G Y_X8_mostAlike lim (f_X8_mostAlike_J89 M x0 x1 x2 x3 y0) K 89 [some (.inr (.inr x0)), some (.inl x1), some (.inl x2), some (.inl x3), none] [.inl y0] M := by
  unfold f_X8_mostAlike_J89
  refine s_run (b := [(.istore 4, 2), (.aload_n 0, 1)]) 92 [some (.inr (.inr x0)), some (.inl x1), some (.inl x2), some (.inl x3), some (.inl y0)] [.inr (.inr x0)] (by decide +kernel) rfl ?_
  refine s_gR fl_8_29 rfl (by decide +kernel) (fun v1 => ?_)
  refine s_run (b := [(.iload 4, 2), (.dup2, 1)]) 98 [some (.inr (.inr x0)), some (.inl x1), some (.inl x2), some (.inl x3), some (.inl y0)] [.inl y0, .inr (.inr v1), .inl y0, .inr (.inr v1)] (by decide +kernel) rfl ?_
  refine s_ia (by decide +kernel) (fun v2 => ?_)
  refine s_run (b := [(.iconst 1, 1), (.iadd, 1)]) 101 [some (.inr (.inr x0)), some (.inl x1), some (.inl x2), some (.inl x3), some (.inl y0)] [.inl (v2 + (1 : Int32)), .inl y0, .inr (.inr v1)] (by decide +kernel) rfl ?_
  refine s_is (by decide +kernel) (fun M3 => ?_)
  refine s_run (b := [(.iload_n 2, 1), (.aload_n 0, 1)]) 104 [some (.inr (.inr x0)), some (.inl x1), some (.inl x2), some (.inl x3), some (.inl y0)] [.inr (.inr x0), .inl x2] (by decide +kernel) rfl ?_
  refine s_gR fl_8_29 rfl (by decide +kernel) (fun v4 => ?_)
  refine s_run (b := [(.iload 4, 2)]) 109 [some (.inr (.inr x0)), some (.inl x1), some (.inl x2), some (.inl x3), some (.inl y0)] [.inl y0, .inr (.inr v4), .inl x2] (by decide +kernel) rfl ?_
  refine s_ia (by decide +kernel) (fun v5 => ?_)
  refine s_imax q1039 ⟨Nat.le_of_ble_eq_true rfl, Nat.le_of_ble_eq_true rfl⟩ (by decide +kernel) ?_
  change Sim l G Y_X8_mostAlike lim _ _ 113 [some (.inr (.inr x0)), some (.inl x1), some (.inl x2), some (.inl x3), some (.inl y0)] [.inl (imax x2 v5)] M3
  refine s_run (b := [(.istore_n 2, 1), (.iinc 3 1, 3), (.goto (-92), 3)]) 25 [some (.inr (.inr x0)), some (.inl x1), some (.inl (imax x2 v5)), some (.inl (x3 + (1 : Int32))), some (.inl y0)] [] (by decide +kernel) rfl ?_
  exact s_lsub (ls' := [some (.inr (.inr x0)), some (.inl x1), some (.inl (imax x2 v5)), some (.inl (x3 + (1 : Int32))), none]) ⟨rfl, ⟨rfl, ⟨rfl, ⟨rfl, trivial⟩⟩⟩⟩ (kk1 (imax x2 v5) (x3 + (1 : Int32)) M3)
def f_X8_mostAlike_B25 (M : Mem) (x0 : Nat) (x1 : Int32) (x2 : Int32) (x3 : Int32) : Option ((Int32 × Int32 × Mem) ⊕ ((Int32 × Mem))) :=
  (gI M 8 x0 0).bind fun v1 =>
  (if v1 ≤ x3 then
    some (.inr (x2, M))
  else
    (gR M 8 x0 1).bind fun v3 =>
    (aI M 0 v3 x3).bind fun v4 =>
    (ob M 8 x0).bind fun _ => (f_X8_suppose M x0 v4).bind fun z5 =>
    (gR z5 8 x0 3).bind fun v6 =>
    (gR z5 8 x0 2).bind fun v7 =>
    (gR z5 8 x0 2).bind fun v8 =>
    (ob z5 5 v8).bind fun _ => (f_X5_othersThan z5 v8 x1).bind fun v9 =>
    (ob z5 3 v6).bind fun _ => (f_X3_asTold z5 v6 v7 x1 v9 1000).bind fun z10 =>
    (gR z10 8 x0 3).bind fun v11 =>
    (gI z10 3 v11 0).bind fun v12 =>
    (if v12 = (-1 : Int32) then
      f_X8_mostAlike_J89 z10 x0 x1 x2 x3 (8 : Int32)
    else
      (gR z10 8 x0 3).bind fun v14 =>
      (gI z10 3 v14 0).bind fun v15 =>
      f_X8_mostAlike_J89 z10 x0 x1 x2 x3 v15))
def f_X8_mostAlike_L25 (M : Mem) (x0 : Nat) (x1 : Int32) (x2 : Int32) (x3 : Int32) : Option ((Int32 × Mem)) := iter (fun s : Int32 × Int32 × Mem => f_X8_mostAlike_B25 s.2.2 x0 x1 s.1 s.2.1) 1048576 (x2, x3, M)
set_option maxRecDepth 20000 in
theorem B_X8_mostAlike_25 {l : Launch} {G : Gv} {lim : Nat × Nat} (M : Mem) (x0 : Nat) (x1 : Int32) (x2 : Int32) (x3 : Int32) (K : (Int32 × Int32 × Mem) ⊕ ((Int32 × Mem)) → Option (Option Value × Mem)) (kk1 : ∀ (s2 : Int32) (s3 : Int32) (s_ : Mem), SimR l G Y_X8_mostAlike lim (K (.inl (s2, s3, s_))) 25 [some (.inr (.inr x0)), some (.inl x1), some (.inl s2), some (.inl s3), none] [] s_) (kk2_0 : ∀ (s2 : Int32) (s_ : Mem), SimR l G Y_X8_mostAlike lim (K (.inr (s2, s_))) 120 [none, none, some (.inl s2), none, none] [] s_) : Sim l G Y_X8_mostAlike lim (f_X8_mostAlike_B25 M x0 x1 x2 x3) K 25 [some (.inr (.inr x0)), some (.inl x1), some (.inl x2), some (.inl x3), none] [] M := by
  unfold f_X8_mostAlike_B25
  refine s_run (b := [(.iload_n 3, 1), (.aload_n 0, 1)]) 27 [some (.inr (.inr x0)), some (.inl x1), some (.inl x2), some (.inl x3), none] [.inr (.inr x0), .inl x3] (by decide +kernel) rfl ?_
  refine s_gI fl_8_36 rfl (by decide +kernel) (fun v1 => ?_)
  refine s_ic_ge (tgt := 120) (off := 90) (by decide +kernel) (by decide) (fun h2 => ?_) (fun h2 => ?_)
  · skip
    exact s_lsub (ls' := [none, none, some (.inl x2), none, none]) ⟨rfl, trivial⟩ (kk2_0 x2 M)
  · skip
    refine s_run (b := [(.aload_n 0, 1), (.aload_n 0, 1)]) 35 [some (.inr (.inr x0)), some (.inl x1), some (.inl x2), some (.inl x3), none] [.inr (.inr x0), .inr (.inr x0)] (by decide +kernel) rfl ?_
    refine s_gR fl_8_9 rfl (by decide +kernel) (fun v3 => ?_)
    refine s_run (b := [(.iload_n 3, 1)]) 39 [some (.inr (.inr x0)), some (.inl x1), some (.inl x2), some (.inl x3), none] [.inl x3, .inr (.inr v3), .inr (.inr x0)] (by decide +kernel) rfl ?_
    refine s_ia (by decide +kernel) (fun v4 => ?_)
    refine s_cV (Z := Y_X8_suppose) (c := 8) (vs := [.inl v4]) (st := []) (rO := fun _ => none) (mO := fun z => z) zk_X8_suppose zi_X8_suppose q1004 rfl ⟨by decide, by decide⟩ ⟨rfl, rfl⟩ rfl rfl (Nat.le_of_ble_eq_true rfl) (by decide +kernel) (fun z hz => c_X8_suppose hz) (fun z5 => ?_)
    change Sim l G Y_X8_mostAlike lim _ _ 43 [some (.inr (.inr x0)), some (.inl x1), some (.inl x2), some (.inl x3), none] [] z5
    refine s_run (b := [(.aload_n 0, 1)]) 44 [some (.inr (.inr x0)), some (.inl x1), some (.inl x2), some (.inl x3), none] [.inr (.inr x0)] (by decide +kernel) rfl ?_
    refine s_gR fl_8_25 rfl (by decide +kernel) (fun v6 => ?_)
    refine s_run (b := [(.aload_n 0, 1)]) 48 [some (.inr (.inr x0)), some (.inl x1), some (.inl x2), some (.inl x3), none] [.inr (.inr x0), .inr (.inr v6)] (by decide +kernel) rfl ?_
    refine s_gR fl_8_18 rfl (by decide +kernel) (fun v7 => ?_)
    refine s_run (b := [(.iload_n 1, 1), (.aload_n 0, 1)]) 53 [some (.inr (.inr x0)), some (.inl x1), some (.inl x2), some (.inl x3), none] [.inr (.inr x0), .inl x1, .inr (.inr v7), .inr (.inr v6)] (by decide +kernel) rfl ?_
    refine s_gR fl_8_18 rfl (by decide +kernel) (fun v8 => ?_)
    refine s_run (b := [(.iload_n 1, 1)]) 57 [some (.inr (.inr x0)), some (.inl x1), some (.inl x2), some (.inl x3), none] [.inl x1, .inr (.inr v8), .inl x1, .inr (.inr v7), .inr (.inr v6)] (by decide +kernel) rfl ?_
    refine s_cV (Z := Y_X5_othersThan) (c := 5) (vs := [.inl x1]) (st := [.inl x1, .inr (.inr v7), .inr (.inr v6)]) (rO := fun z => some (.inl z)) (mO := fun _ => z5) zk_X5_othersThan zi_X5_othersThan q1012 rfl ⟨by decide, by decide⟩ ⟨rfl, rfl⟩ rfl rfl (Nat.le_of_ble_eq_true rfl) (by decide +kernel) (fun z hz => c_X5_othersThan hz) (fun v9 => ?_)
    change Sim l G Y_X8_mostAlike lim _ _ 60 [some (.inr (.inr x0)), some (.inl x1), some (.inl x2), some (.inl x3), none] [.inl v9, .inl x1, .inr (.inr v7), .inr (.inr v6)] z5
    refine s_gsN (j := 0) (by decide) (List.mem_of_getElem? (i := 18) rfl) (by decide +kernel) ?_
    change Sim l G Y_X8_mostAlike lim _ _ 63 [some (.inr (.inr x0)), some (.inl x1), some (.inl x2), some (.inl x3), none] [.inr (.inr 1000), .inl v9, .inl x1, .inr (.inr v7), .inr (.inr v6)] z5
    refine s_cV (Z := Y_X3_asTold) (c := 3) (vs := [.inr (.inr v7), .inl x1, .inl v9, .inr (.inr 1000)]) (st := []) (rO := fun _ => none) (mO := fun z => z) zk_X3_asTold zi_X3_asTold q1018 rfl ⟨by decide, by decide⟩ ⟨rfl, rfl⟩ rfl rfl (Nat.le_of_ble_eq_true rfl) (by decide +kernel) (fun z hz => c_X3_asTold hz) (fun z10 => ?_)
    change Sim l G Y_X8_mostAlike lim _ _ 66 [some (.inr (.inr x0)), some (.inl x1), some (.inl x2), some (.inl x3), none] [] z10
    refine s_run (b := [(.aload_n 0, 1)]) 67 [some (.inr (.inr x0)), some (.inl x1), some (.inl x2), some (.inl x3), none] [.inr (.inr x0)] (by decide +kernel) rfl ?_
    refine s_gR fl_8_25 rfl (by decide +kernel) (fun v11 => ?_)
    refine s_gI fl_8_77 rfl (by decide +kernel) (fun v12 => ?_)
    refine s_run (b := [(.iconst (-1), 1)]) 74 [some (.inr (.inr x0)), some (.inl x1), some (.inl x2), some (.inl x3), none] [.inl (-1 : Int32), .inl v12] (by decide +kernel) rfl ?_
    refine s_ic_ne (tgt := 82) (off := 8) (by decide +kernel) (by decide) (fun h13 => ?_) (fun h13 => ?_)
    · skip
      refine s_run (b := [(.bipush 8, 2), (.goto 10, 3)]) 89 [some (.inr (.inr x0)), some (.inl x1), some (.inl x2), some (.inl x3), none] [.inl (8 : Int32)] (by decide +kernel) rfl ?_
      exact s_lsub (ls' := [some (.inr (.inr x0)), some (.inl x1), some (.inl x2), some (.inl x3), none]) ⟨rfl, ⟨rfl, ⟨rfl, ⟨rfl, trivial⟩⟩⟩⟩ (J_X8_mostAlike_89 z10 x0 x1 x2 x3 (8 : Int32) K kk1 kk2_0)
    · skip
      refine s_run (b := [(.aload_n 0, 1)]) 83 [some (.inr (.inr x0)), some (.inl x1), some (.inl x2), some (.inl x3), none] [.inr (.inr x0)] (by decide +kernel) rfl ?_
      refine s_gR fl_8_25 rfl (by decide +kernel) (fun v14 => ?_)
      refine s_gI fl_8_77 rfl (by decide +kernel) (fun v15 => ?_)
      exact s_lsub (ls' := [some (.inr (.inr x0)), some (.inl x1), some (.inl x2), some (.inl x3), none]) ⟨rfl, ⟨rfl, ⟨rfl, ⟨rfl, trivial⟩⟩⟩⟩ (J_X8_mostAlike_89 z10 x0 x1 x2 x3 v15 K kk1 kk2_0)
set_option maxRecDepth 20000 in
theorem L_X8_mostAlike_25 {l : Launch} {G : Gv} {lim : Nat × Nat} (M : Mem) (x0 : Nat) (x1 : Int32) (x2 : Int32) (x3 : Int32) (K : ((Int32 × Mem)) → Option (Option Value × Mem)) (kk2_0 : ∀ r : Int32 × Mem, SimR l G Y_X8_mostAlike lim (K r) 120 [none, none, some (.inl r.1), none, none] [] r.2) : Sim l G Y_X8_mostAlike lim (f_X8_mostAlike_L25 M x0 x1 x2 x3) K 25 [some (.inr (.inr x0)), some (.inl x1), some (.inl x2), some (.inl x3), none] [] M :=
  s_iter (f := fun s : Int32 × Int32 × Mem => f_X8_mostAlike_B25 s.2.2 x0 x1 s.1 s.2.1) (hd := 25) (cl := fun s => [some (.inr (.inr x0)), some (.inl x1), some (.inl s.1), some (.inl s.2.1), none]) (cm := fun s => s.2.2) (xp := fun _ => 120) (xl := fun r => [none, none, some (.inl r.1), none, none]) (xm := fun r => r.2) (fun s K h1 h2 => B_X8_mostAlike_25 s.2.2 x0 x1 s.1 s.2.1 K (fun a2 a3 a_ => h1 (a2, a3, a_)) (fun a2 a_ => h2 (a2, a_))) 1048576 (x2, x3, M) K kk2_0
def f_X8_mostAlike (M : Mem) (x0 : Nat) (x1 : Int32) : Option (Int32 × Mem) :=
  (f_X8_mostAlike_L2 M x0 x1 (0 : Int32)).bind fun r1 =>
  (f_X8_mostAlike_L25 r1 x0 x1 (0 : Int32) (0 : Int32)).bind fun r2 =>
  some (r2.1, r2.2)
set_option maxRecDepth 20000 in
theorem S_X8_mostAlike {l : Launch} {G : Gv} {lim : Nat × Nat} (M : Mem) (x0 : Nat) (x1 : Int32) : Sim l G Y_X8_mostAlike lim (f_X8_mostAlike M x0 x1) (fun z => some (some (.int z.1), z.2)) 0 [some (.inr (.inr x0)), some (.inl x1), none, none, none] [] M := by
  unfold f_X8_mostAlike
  refine s_run (b := [(.iconst 0, 1), (.istore_n 2, 1)]) 2 [some (.inr (.inr x0)), some (.inl x1), some (.inl (0 : Int32)), none, none] [] (by decide +kernel) rfl ?_
  refine s_lsub (ls' := [some (.inr (.inr x0)), some (.inl x1), some (.inl (0 : Int32)), none, none]) ⟨rfl, ⟨rfl, ⟨rfl, trivial⟩⟩⟩ ?_
  refine sim_bind (L_X8_mostAlike_2 M x0 x1 (0 : Int32) _ (fun r1 => ?_))
  change Sim l G Y_X8_mostAlike lim _ _ 21 [some (.inr (.inr x0)), some (.inl x1), none, none, none] [] r1
  refine s_run (b := [(.iconst 0, 1), (.istore_n 2, 1), (.iconst 0, 1), (.istore_n 3, 1)]) 25 [some (.inr (.inr x0)), some (.inl x1), some (.inl (0 : Int32)), some (.inl (0 : Int32)), none] [] (by decide +kernel) rfl ?_
  refine s_lsub (ls' := [some (.inr (.inr x0)), some (.inl x1), some (.inl (0 : Int32)), some (.inl (0 : Int32)), none]) ⟨rfl, ⟨rfl, ⟨rfl, ⟨rfl, trivial⟩⟩⟩⟩ ?_
  refine sim_bind (L_X8_mostAlike_25 r1 x0 x1 (0 : Int32) (0 : Int32) _ (fun r2 => ?_))
  change Sim l G Y_X8_mostAlike lim _ _ 120 [none, none, some (.inl r2.1), none, none] [] r2.2
  refine s_run (b := [(.iload_n 2, 1)]) 121 [none, none, some (.inl r2.1), none, none] [.inl r2.1] (by decide +kernel) rfl ?_
  exact s_iret (by decide +kernel) rfl
set_option maxRecDepth 20000 in
theorem c_X8_mostAlike {l : Launch} {G : Gv} {M : Mem} {x0 : Nat} {x1 : Int32} {z : Int32 × Mem} (h : f_X8_mostAlike M x0 x1 = some z) : MetS l G Y_X8_mostAlike [.inr (.inr x0), .inl x1] M (some (.int z.1)) z.2 :=
  met_of (ls0 := [some (.inr (.inr x0)), some (.inl x1), none, none, none]) (by decide) rfl (lv_in (m := 3) rfl) (sl_le (Nat.le_of_ble_eq_true rfl)) (by rw [h]; rfl) (Or.inl ⟨rfl, rfl⟩) (S_X8_mostAlike M x0 x1)
def f_X8_deskToTry_B6 (M : Mem) (x0 : Nat) (x1 : Int32) (x2 : Int32) (x3 : Int32) : Option ((Int32 × Int32 × Int32 × Mem) ⊕ ((Int32 × Mem))) :=
  (gR M 8 x0 2).bind fun v1 =>
  (gI M 5 v1 0).bind fun v2 =>
  (if v2 ≤ x3 then
    some (.inr (x1, M))
  else
    (ob M 8 x0).bind fun _ => (f_X8_mostAlike M x0 x3).bind fun z4 =>
    (if x1 = (-1 : Int32) then
      some (.inl (x3, z4.1, (x3 + (1 : Int32)), z4.2))
    else
      (if x2 ≤ z4.1 then
        some (.inl (x1, x2, (x3 + (1 : Int32)), z4.2))
      else
        some (.inl (x3, z4.1, (x3 + (1 : Int32)), z4.2)))))
def f_X8_deskToTry_L6 (M : Mem) (x0 : Nat) (x1 : Int32) (x2 : Int32) (x3 : Int32) : Option ((Int32 × Mem)) := iter (fun s : Int32 × Int32 × Int32 × Mem => f_X8_deskToTry_B6 s.2.2.2 x0 s.1 s.2.1 s.2.2.1) 1048576 (x1, x2, x3, M)
set_option maxRecDepth 20000 in
theorem B_X8_deskToTry_6 {l : Launch} {G : Gv} {lim : Nat × Nat} (M : Mem) (x0 : Nat) (x1 : Int32) (x2 : Int32) (x3 : Int32) (K : (Int32 × Int32 × Int32 × Mem) ⊕ ((Int32 × Mem)) → Option (Option Value × Mem)) (kk1 : ∀ (s1 : Int32) (s2 : Int32) (s3 : Int32) (s_ : Mem), SimR l G Y_X8_deskToTry lim (K (.inl (s1, s2, s3, s_))) 6 [some (.inr (.inr x0)), some (.inl s1), some (.inl s2), some (.inl s3), none] [] s_) (kk2_0 : ∀ (s1 : Int32) (s_ : Mem), SimR l G Y_X8_deskToTry lim (K (.inr (s1, s_))) 46 [none, some (.inl s1), none, none, none] [] s_) : Sim l G Y_X8_deskToTry lim (f_X8_deskToTry_B6 M x0 x1 x2 x3) K 6 [some (.inr (.inr x0)), some (.inl x1), some (.inl x2), some (.inl x3), none] [] M := by
  unfold f_X8_deskToTry_B6
  refine s_run (b := [(.iload_n 3, 1), (.aload_n 0, 1)]) 8 [some (.inr (.inr x0)), some (.inl x1), some (.inl x2), some (.inl x3), none] [.inr (.inr x0), .inl x3] (by decide +kernel) rfl ?_
  refine s_gR fl_8_18 rfl (by decide +kernel) (fun v1 => ?_)
  refine s_gI fl_8_52 rfl (by decide +kernel) (fun v2 => ?_)
  refine s_ic_ge (tgt := 46) (off := 32) (by decide +kernel) (by decide) (fun h3 => ?_) (fun h3 => ?_)
  · skip
    exact s_lsub (ls' := [none, some (.inl x1), none, none, none]) ⟨rfl, trivial⟩ (kk2_0 x1 M)
  · skip
    refine s_run (b := [(.aload_n 0, 1), (.iload_n 3, 1)]) 19 [some (.inr (.inr x0)), some (.inl x1), some (.inl x2), some (.inl x3), none] [.inl x3, .inr (.inr x0)] (by decide +kernel) rfl ?_
    refine s_cV (Z := Y_X8_mostAlike) (c := 8) (vs := [.inl x3]) (st := []) (rO := fun z => some (.inl z.1)) (mO := fun z => z.2) zk_X8_mostAlike zi_X8_mostAlike q1035 rfl ⟨by decide, by decide⟩ ⟨rfl, rfl⟩ rfl rfl (Nat.le_of_ble_eq_true rfl) (by decide +kernel) (fun z hz => c_X8_mostAlike hz) (fun z4 => ?_)
    change Sim l G Y_X8_deskToTry lim _ _ 22 [some (.inr (.inr x0)), some (.inl x1), some (.inl x2), some (.inl x3), none] [.inl z4.1] z4.2
    refine s_run (b := [(.istore 4, 2), (.iload_n 1, 1), (.iconst (-1), 1)]) 26 [some (.inr (.inr x0)), some (.inl x1), some (.inl x2), some (.inl x3), some (.inl z4.1)] [.inl (-1 : Int32), .inl x1] (by decide +kernel) rfl ?_
    refine s_ic_eq (tgt := 35) (off := 9) (by decide +kernel) (by decide) (fun h5 => ?_) (fun h5 => ?_)
    · skip
      refine s_run (b := [(.iload_n 3, 1), (.istore_n 1, 1), (.iload 4, 2), (.istore_n 2, 1), (.iinc 3 1, 3), (.goto (-37), 3)]) 6 [some (.inr (.inr x0)), some (.inl x3), some (.inl z4.1), some (.inl (x3 + (1 : Int32))), some (.inl z4.1)] [] (by decide +kernel) rfl ?_
      exact s_lsub (ls' := [some (.inr (.inr x0)), some (.inl x3), some (.inl z4.1), some (.inl (x3 + (1 : Int32))), none]) ⟨rfl, ⟨rfl, ⟨rfl, ⟨rfl, trivial⟩⟩⟩⟩ (kk1 x3 z4.1 (x3 + (1 : Int32)) z4.2)
    · skip
      refine s_run (b := [(.iload 4, 2), (.iload_n 2, 1)]) 32 [some (.inr (.inr x0)), some (.inl x1), some (.inl x2), some (.inl x3), some (.inl z4.1)] [.inl x2, .inl z4.1] (by decide +kernel) rfl ?_
      refine s_ic_ge (tgt := 40) (off := 8) (by decide +kernel) (by decide) (fun h6 => ?_) (fun h6 => ?_)
      · skip
        refine s_run (b := [(.iinc 3 1, 3), (.goto (-37), 3)]) 6 [some (.inr (.inr x0)), some (.inl x1), some (.inl x2), some (.inl (x3 + (1 : Int32))), some (.inl z4.1)] [] (by decide +kernel) rfl ?_
        exact s_lsub (ls' := [some (.inr (.inr x0)), some (.inl x1), some (.inl x2), some (.inl (x3 + (1 : Int32))), none]) ⟨rfl, ⟨rfl, ⟨rfl, ⟨rfl, trivial⟩⟩⟩⟩ (kk1 x1 x2 (x3 + (1 : Int32)) z4.2)
      · skip
        refine s_run (b := [(.iload_n 3, 1), (.istore_n 1, 1), (.iload 4, 2), (.istore_n 2, 1), (.iinc 3 1, 3), (.goto (-37), 3)]) 6 [some (.inr (.inr x0)), some (.inl x3), some (.inl z4.1), some (.inl (x3 + (1 : Int32))), some (.inl z4.1)] [] (by decide +kernel) rfl ?_
        exact s_lsub (ls' := [some (.inr (.inr x0)), some (.inl x3), some (.inl z4.1), some (.inl (x3 + (1 : Int32))), none]) ⟨rfl, ⟨rfl, ⟨rfl, ⟨rfl, trivial⟩⟩⟩⟩ (kk1 x3 z4.1 (x3 + (1 : Int32)) z4.2)
set_option maxRecDepth 20000 in
theorem L_X8_deskToTry_6 {l : Launch} {G : Gv} {lim : Nat × Nat} (M : Mem) (x0 : Nat) (x1 : Int32) (x2 : Int32) (x3 : Int32) (K : ((Int32 × Mem)) → Option (Option Value × Mem)) (kk2_0 : ∀ r : Int32 × Mem, SimR l G Y_X8_deskToTry lim (K r) 46 [none, some (.inl r.1), none, none, none] [] r.2) : Sim l G Y_X8_deskToTry lim (f_X8_deskToTry_L6 M x0 x1 x2 x3) K 6 [some (.inr (.inr x0)), some (.inl x1), some (.inl x2), some (.inl x3), none] [] M :=
  s_iter (f := fun s : Int32 × Int32 × Int32 × Mem => f_X8_deskToTry_B6 s.2.2.2 x0 s.1 s.2.1 s.2.2.1) (hd := 6) (cl := fun s => [some (.inr (.inr x0)), some (.inl s.1), some (.inl s.2.1), some (.inl s.2.2.1), none]) (cm := fun s => s.2.2.2) (xp := fun _ => 46) (xl := fun r => [none, some (.inl r.1), none, none, none]) (xm := fun r => r.2) (fun s K h1 h2 => B_X8_deskToTry_6 s.2.2.2 x0 s.1 s.2.1 s.2.2.1 K (fun a1 a2 a3 a_ => h1 (a1, a2, a3, a_)) (fun a1 a_ => h2 (a1, a_))) 1048576 (x1, x2, x3, M) K kk2_0
def f_X8_deskToTry (M : Mem) (x0 : Nat) : Option (Int32 × Mem) :=
  (f_X8_deskToTry_L6 M x0 (-1 : Int32) (0 : Int32) (0 : Int32)).bind fun r1 =>
  some (r1.1, r1.2)
set_option maxRecDepth 20000 in
theorem S_X8_deskToTry {l : Launch} {G : Gv} {lim : Nat × Nat} (M : Mem) (x0 : Nat) : Sim l G Y_X8_deskToTry lim (f_X8_deskToTry M x0) (fun z => some (some (.int z.1), z.2)) 0 [some (.inr (.inr x0)), none, none, none, none] [] M := by
  unfold f_X8_deskToTry
  refine s_run (b := [(.iconst (-1), 1), (.istore_n 1, 1), (.iconst 0, 1), (.istore_n 2, 1), (.iconst 0, 1), (.istore_n 3, 1)]) 6 [some (.inr (.inr x0)), some (.inl (-1 : Int32)), some (.inl (0 : Int32)), some (.inl (0 : Int32)), none] [] (by decide +kernel) rfl ?_
  refine s_lsub (ls' := [some (.inr (.inr x0)), some (.inl (-1 : Int32)), some (.inl (0 : Int32)), some (.inl (0 : Int32)), none]) ⟨rfl, ⟨rfl, ⟨rfl, ⟨rfl, trivial⟩⟩⟩⟩ ?_
  refine sim_bind (L_X8_deskToTry_6 M x0 (-1 : Int32) (0 : Int32) (0 : Int32) _ (fun r1 => ?_))
  change Sim l G Y_X8_deskToTry lim _ _ 46 [none, some (.inl r1.1), none, none, none] [] r1.2
  refine s_run (b := [(.iload_n 1, 1)]) 47 [none, some (.inl r1.1), none, none, none] [.inl r1.1] (by decide +kernel) rfl ?_
  exact s_iret (by decide +kernel) rfl
set_option maxRecDepth 20000 in
theorem c_X8_deskToTry {l : Launch} {G : Gv} {M : Mem} {x0 : Nat} {z : Int32 × Mem} (h : f_X8_deskToTry M x0 = some z) : MetS l G Y_X8_deskToTry [.inr (.inr x0)] M (some (.int z.1)) z.2 :=
  met_of (ls0 := [some (.inr (.inr x0)), none, none, none, none]) (by decide) rfl (lv_in (m := 4) rfl) (sl_le (Nat.le_of_ble_eq_true rfl)) (by rw [h]; rfl) (Or.inl ⟨rfl, rfl⟩) (S_X8_deskToTry M x0)
def f_X8_inAll_B10 (M : Mem) (x0 : Nat) (x1 : Int32) (x2 : Int32) : Option ((Int32 × Int32) ⊕ ((Int32))) :=
  (gI M 8 x0 0).bind fun v1 =>
  (if v1 ≤ x2 then
    some (.inr x1)
  else
    (gR M 8 x0 1).bind fun v3 =>
    (aI M 0 v3 x2).bind fun v4 =>
    some (.inl ((x1 &&& v4), (x2 + (1 : Int32)))))
def f_X8_inAll_L10 (M : Mem) (x0 : Nat) (x1 : Int32) (x2 : Int32) : Option ((Int32)) := iter (fun s : Int32 × Int32 => f_X8_inAll_B10 M x0 s.1 s.2) 1048576 (x1, x2)
set_option maxRecDepth 20000 in
theorem B_X8_inAll_10 {l : Launch} {G : Gv} {lim : Nat × Nat} (M : Mem) (x0 : Nat) (x1 : Int32) (x2 : Int32) (K : (Int32 × Int32) ⊕ ((Int32)) → Option (Option Value × Mem)) (kk1 : ∀ (s1 : Int32) (s2 : Int32), SimR l G Y_X8_inAll lim (K (.inl (s1, s2))) 10 [some (.inr (.inr x0)), some (.inl s1), some (.inl s2)] [] M) (kk2_0 : ∀ (s1 : Int32), SimR l G Y_X8_inAll lim (K (.inr s1)) 33 [none, some (.inl s1), none] [] M) : Sim l G Y_X8_inAll lim (f_X8_inAll_B10 M x0 x1 x2) K 10 [some (.inr (.inr x0)), some (.inl x1), some (.inl x2)] [] M := by
  unfold f_X8_inAll_B10
  refine s_run (b := [(.iload_n 2, 1), (.aload_n 0, 1)]) 12 [some (.inr (.inr x0)), some (.inl x1), some (.inl x2)] [.inr (.inr x0), .inl x2] (by decide +kernel) rfl ?_
  refine s_gI fl_8_36 rfl (by decide +kernel) (fun v1 => ?_)
  refine s_ic_ge (tgt := 33) (off := 18) (by decide +kernel) (by decide) (fun h2 => ?_) (fun h2 => ?_)
  · skip
    exact s_lsub (ls' := [none, some (.inl x1), none]) ⟨rfl, trivial⟩ (kk2_0 x1)
  · skip
    refine s_run (b := [(.iload_n 1, 1), (.aload_n 0, 1)]) 20 [some (.inr (.inr x0)), some (.inl x1), some (.inl x2)] [.inr (.inr x0), .inl x1] (by decide +kernel) rfl ?_
    refine s_gR fl_8_9 rfl (by decide +kernel) (fun v3 => ?_)
    refine s_run (b := [(.iload_n 2, 1)]) 24 [some (.inr (.inr x0)), some (.inl x1), some (.inl x2)] [.inl x2, .inr (.inr v3), .inl x1] (by decide +kernel) rfl ?_
    refine s_ia (by decide +kernel) (fun v4 => ?_)
    refine s_run (b := [(.iand, 1), (.istore_n 1, 1), (.iinc 2 1, 3), (.goto (-20), 3)]) 10 [some (.inr (.inr x0)), some (.inl (x1 &&& v4)), some (.inl (x2 + (1 : Int32)))] [] (by decide +kernel) rfl ?_
    exact s_lsub (ls' := [some (.inr (.inr x0)), some (.inl (x1 &&& v4)), some (.inl (x2 + (1 : Int32)))]) ⟨rfl, ⟨rfl, ⟨rfl, trivial⟩⟩⟩ (kk1 (x1 &&& v4) (x2 + (1 : Int32)))
set_option maxRecDepth 20000 in
theorem L_X8_inAll_10 {l : Launch} {G : Gv} {lim : Nat × Nat} (M : Mem) (x0 : Nat) (x1 : Int32) (x2 : Int32) (K : ((Int32)) → Option (Option Value × Mem)) (kk2_0 : ∀ r : Int32, SimR l G Y_X8_inAll lim (K r) 33 [none, some (.inl r), none] [] M) : Sim l G Y_X8_inAll lim (f_X8_inAll_L10 M x0 x1 x2) K 10 [some (.inr (.inr x0)), some (.inl x1), some (.inl x2)] [] M :=
  s_iter (f := fun s : Int32 × Int32 => f_X8_inAll_B10 M x0 s.1 s.2) (hd := 10) (cl := fun s => [some (.inr (.inr x0)), some (.inl s.1), some (.inl s.2)]) (cm := fun s => M) (xp := fun _ => 33) (xl := fun r => [none, some (.inl r), none]) (xm := fun r => M) (fun s K h1 h2 => B_X8_inAll_10 M x0 s.1 s.2 K (fun a1 a2 => h1 (a1, a2)) (fun a1 => h2 a1)) 1048576 (x1, x2) K kk2_0
def f_X8_inAll (M : Mem) (x0 : Nat) : Option (Int32) :=
  (gR M 8 x0 2).bind fun v1 =>
  (ob M 5 v1).bind fun _ => (f_X5_everybody M v1).bind fun v2 =>
  (f_X8_inAll_L10 M x0 v2 (0 : Int32)).bind fun r3 =>
  some r3
set_option maxRecDepth 20000 in
theorem S_X8_inAll {l : Launch} {G : Gv} {lim : Nat × Nat} (M : Mem) (x0 : Nat) : Sim l G Y_X8_inAll lim (f_X8_inAll M x0) (fun z => some (some (.int z), M)) 0 [some (.inr (.inr x0)), none, none] [] M := by
  unfold f_X8_inAll
  refine s_run (b := [(.aload_n 0, 1)]) 1 [some (.inr (.inr x0)), none, none] [.inr (.inr x0)] (by decide +kernel) rfl ?_
  refine s_gR fl_8_18 rfl (by decide +kernel) (fun v1 => ?_)
  refine s_cV (Z := Y_X5_everybody) (c := 5) (vs := []) (st := []) (rO := fun z => some (.inl z)) (mO := fun _ => M) zk_X5_everybody zi_X5_everybody q1003 rfl ⟨by decide, by decide⟩ ⟨rfl, rfl⟩ rfl rfl (Nat.le_of_ble_eq_true rfl) (by decide +kernel) (fun z hz => c_X5_everybody hz) (fun v2 => ?_)
  change Sim l G Y_X8_inAll lim _ _ 7 [some (.inr (.inr x0)), none, none] [.inl v2] M
  refine s_run (b := [(.istore_n 1, 1), (.iconst 0, 1), (.istore_n 2, 1)]) 10 [some (.inr (.inr x0)), some (.inl v2), some (.inl (0 : Int32))] [] (by decide +kernel) rfl ?_
  refine s_lsub (ls' := [some (.inr (.inr x0)), some (.inl v2), some (.inl (0 : Int32))]) ⟨rfl, ⟨rfl, ⟨rfl, trivial⟩⟩⟩ ?_
  refine sim_bind (L_X8_inAll_10 M x0 v2 (0 : Int32) _ (fun r3 => ?_))
  change Sim l G Y_X8_inAll lim _ _ 33 [none, some (.inl r3), none] [] M
  refine s_run (b := [(.iload_n 1, 1)]) 34 [none, some (.inl r3), none] [.inl r3] (by decide +kernel) rfl ?_
  exact s_iret (by decide +kernel) rfl
set_option maxRecDepth 20000 in
theorem c_X8_inAll {l : Launch} {G : Gv} {M : Mem} {x0 : Nat} {z : Int32} (h : f_X8_inAll M x0 = some z) : MetS l G Y_X8_inAll [.inr (.inr x0)] M (some (.int z)) M :=
  met_of (ls0 := [some (.inr (.inr x0)), none, none]) (by decide) rfl (lv_in (m := 2) rfl) (sl_le (Nat.le_of_ble_eq_true rfl)) (by rw [h]; rfl) (Or.inl ⟨rfl, rfl⟩) (S_X8_inAll M x0)
def f_X8_inNone_B10 (M : Mem) (x0 : Nat) (x1 : Int32) (x2 : Int32) : Option ((Int32 × Int32) ⊕ ((Int32))) :=
  (gI M 8 x0 0).bind fun v1 =>
  (if v1 ≤ x2 then
    some (.inr x1)
  else
    (gR M 8 x0 1).bind fun v3 =>
    (aI M 0 v3 x2).bind fun v4 =>
    some (.inl ((x1 &&& (v4 ^^^ (-1 : Int32))), (x2 + (1 : Int32)))))
def f_X8_inNone_L10 (M : Mem) (x0 : Nat) (x1 : Int32) (x2 : Int32) : Option ((Int32)) := iter (fun s : Int32 × Int32 => f_X8_inNone_B10 M x0 s.1 s.2) 1048576 (x1, x2)
set_option maxRecDepth 20000 in
theorem B_X8_inNone_10 {l : Launch} {G : Gv} {lim : Nat × Nat} (M : Mem) (x0 : Nat) (x1 : Int32) (x2 : Int32) (K : (Int32 × Int32) ⊕ ((Int32)) → Option (Option Value × Mem)) (kk1 : ∀ (s1 : Int32) (s2 : Int32), SimR l G Y_X8_inNone lim (K (.inl (s1, s2))) 10 [some (.inr (.inr x0)), some (.inl s1), some (.inl s2)] [] M) (kk2_0 : ∀ (s1 : Int32), SimR l G Y_X8_inNone lim (K (.inr s1)) 35 [none, some (.inl s1), none] [] M) : Sim l G Y_X8_inNone lim (f_X8_inNone_B10 M x0 x1 x2) K 10 [some (.inr (.inr x0)), some (.inl x1), some (.inl x2)] [] M := by
  unfold f_X8_inNone_B10
  refine s_run (b := [(.iload_n 2, 1), (.aload_n 0, 1)]) 12 [some (.inr (.inr x0)), some (.inl x1), some (.inl x2)] [.inr (.inr x0), .inl x2] (by decide +kernel) rfl ?_
  refine s_gI fl_8_36 rfl (by decide +kernel) (fun v1 => ?_)
  refine s_ic_ge (tgt := 35) (off := 20) (by decide +kernel) (by decide) (fun h2 => ?_) (fun h2 => ?_)
  · skip
    exact s_lsub (ls' := [none, some (.inl x1), none]) ⟨rfl, trivial⟩ (kk2_0 x1)
  · skip
    refine s_run (b := [(.iload_n 1, 1), (.aload_n 0, 1)]) 20 [some (.inr (.inr x0)), some (.inl x1), some (.inl x2)] [.inr (.inr x0), .inl x1] (by decide +kernel) rfl ?_
    refine s_gR fl_8_9 rfl (by decide +kernel) (fun v3 => ?_)
    refine s_run (b := [(.iload_n 2, 1)]) 24 [some (.inr (.inr x0)), some (.inl x1), some (.inl x2)] [.inl x2, .inr (.inr v3), .inl x1] (by decide +kernel) rfl ?_
    refine s_ia (by decide +kernel) (fun v4 => ?_)
    refine s_run (b := [(.iconst (-1), 1), (.ixor, 1), (.iand, 1), (.istore_n 1, 1), (.iinc 2 1, 3), (.goto (-22), 3)]) 10 [some (.inr (.inr x0)), some (.inl (x1 &&& (v4 ^^^ (-1 : Int32)))), some (.inl (x2 + (1 : Int32)))] [] (by decide +kernel) rfl ?_
    exact s_lsub (ls' := [some (.inr (.inr x0)), some (.inl (x1 &&& (v4 ^^^ (-1 : Int32)))), some (.inl (x2 + (1 : Int32)))]) ⟨rfl, ⟨rfl, ⟨rfl, trivial⟩⟩⟩ (kk1 (x1 &&& (v4 ^^^ (-1 : Int32))) (x2 + (1 : Int32)))
set_option maxRecDepth 20000 in
theorem L_X8_inNone_10 {l : Launch} {G : Gv} {lim : Nat × Nat} (M : Mem) (x0 : Nat) (x1 : Int32) (x2 : Int32) (K : ((Int32)) → Option (Option Value × Mem)) (kk2_0 : ∀ r : Int32, SimR l G Y_X8_inNone lim (K r) 35 [none, some (.inl r), none] [] M) : Sim l G Y_X8_inNone lim (f_X8_inNone_L10 M x0 x1 x2) K 10 [some (.inr (.inr x0)), some (.inl x1), some (.inl x2)] [] M :=
  s_iter (f := fun s : Int32 × Int32 => f_X8_inNone_B10 M x0 s.1 s.2) (hd := 10) (cl := fun s => [some (.inr (.inr x0)), some (.inl s.1), some (.inl s.2)]) (cm := fun s => M) (xp := fun _ => 35) (xl := fun r => [none, some (.inl r), none]) (xm := fun r => M) (fun s K h1 h2 => B_X8_inNone_10 M x0 s.1 s.2 K (fun a1 a2 => h1 (a1, a2)) (fun a1 => h2 a1)) 1048576 (x1, x2) K kk2_0
def f_X8_inNone (M : Mem) (x0 : Nat) : Option (Int32) :=
  (gR M 8 x0 2).bind fun v1 =>
  (ob M 5 v1).bind fun _ => (f_X5_everybody M v1).bind fun v2 =>
  (f_X8_inNone_L10 M x0 v2 (0 : Int32)).bind fun r3 =>
  some r3
set_option maxRecDepth 20000 in
theorem S_X8_inNone {l : Launch} {G : Gv} {lim : Nat × Nat} (M : Mem) (x0 : Nat) : Sim l G Y_X8_inNone lim (f_X8_inNone M x0) (fun z => some (some (.int z), M)) 0 [some (.inr (.inr x0)), none, none] [] M := by
  unfold f_X8_inNone
  refine s_run (b := [(.aload_n 0, 1)]) 1 [some (.inr (.inr x0)), none, none] [.inr (.inr x0)] (by decide +kernel) rfl ?_
  refine s_gR fl_8_18 rfl (by decide +kernel) (fun v1 => ?_)
  refine s_cV (Z := Y_X5_everybody) (c := 5) (vs := []) (st := []) (rO := fun z => some (.inl z)) (mO := fun _ => M) zk_X5_everybody zi_X5_everybody q1003 rfl ⟨by decide, by decide⟩ ⟨rfl, rfl⟩ rfl rfl (Nat.le_of_ble_eq_true rfl) (by decide +kernel) (fun z hz => c_X5_everybody hz) (fun v2 => ?_)
  change Sim l G Y_X8_inNone lim _ _ 7 [some (.inr (.inr x0)), none, none] [.inl v2] M
  refine s_run (b := [(.istore_n 1, 1), (.iconst 0, 1), (.istore_n 2, 1)]) 10 [some (.inr (.inr x0)), some (.inl v2), some (.inl (0 : Int32))] [] (by decide +kernel) rfl ?_
  refine s_lsub (ls' := [some (.inr (.inr x0)), some (.inl v2), some (.inl (0 : Int32))]) ⟨rfl, ⟨rfl, ⟨rfl, trivial⟩⟩⟩ ?_
  refine sim_bind (L_X8_inNone_10 M x0 v2 (0 : Int32) _ (fun r3 => ?_))
  change Sim l G Y_X8_inNone lim _ _ 35 [none, some (.inl r3), none] [] M
  refine s_run (b := [(.iload_n 1, 1)]) 36 [none, some (.inl r3), none] [.inl r3] (by decide +kernel) rfl ?_
  exact s_iret (by decide +kernel) rfl
set_option maxRecDepth 20000 in
theorem c_X8_inNone {l : Launch} {G : Gv} {M : Mem} {x0 : Nat} {z : Int32} (h : f_X8_inNone M x0 = some z) : MetS l G Y_X8_inNone [.inr (.inr x0)] M (some (.int z)) M :=
  met_of (ls0 := [some (.inr (.inr x0)), none, none]) (by decide) rfl (lv_in (m := 2) rfl) (sl_le (Nat.le_of_ble_eq_true rfl)) (by rw [h]; rfl) (Or.inl ⟨rfl, rfl⟩) (S_X8_inNone M x0)
def f_X8_tell (M : Mem) (x0 : Nat) (x1 : Int32) : Option (Int32 × Mem) :=
  (if x1 < (10 : Int32) then
    (if x1 = (0 : Int32) then
      (gI M 8 x0 0).bind fun v3 =>
      some (v3, M)
    else
    (if x1 = (1 : Int32) then
      (gI M 8 x0 0).bind fun v5 =>
      (if v5 = 0 then
        some ((-1 : Int32), M)
      else
        (ob M 8 x0).bind fun _ => (f_X8_inAll M x0).bind fun v7 =>
        some (v7, M))
    else
    (if x1 = (2 : Int32) then
      (gI M 8 x0 0).bind fun v9 =>
      (if v9 = 0 then
        some ((-1 : Int32), M)
      else
        (ob M 8 x0).bind fun _ => (f_X8_inNone M x0).bind fun v11 =>
        some (v11, M))
    else
    (if x1 = (3 : Int32) then
      (gI M 8 x0 0).bind fun v13 =>
      (if v13 = 0 then
        some ((-1 : Int32), M)
      else
        (ob M 8 x0).bind fun _ => (f_X8_deskToTry M x0).bind fun z15 =>
        some (z15.1, z15.2))
    else
    some ((-2 : Int32), M)))))
  else
    (gI M 8 x0 0).bind fun v16 =>
    (if v16 ≤ (x1 - (10 : Int32)) then
      some ((-2 : Int32), M)
    else
      (gR M 8 x0 1).bind fun v18 =>
      (aI M 0 v18 (x1 - (10 : Int32))).bind fun v19 =>
      some (v19, M)))
set_option maxRecDepth 20000 in
theorem S_X8_tell {l : Launch} {G : Gv} {lim : Nat × Nat} (M : Mem) (x0 : Nat) (x1 : Int32) : Sim l G Y_X8_tell lim (f_X8_tell M x0 x1) (fun z => some (some (.int z.1), z.2)) 0 [some (.inr (.inr x0)), some (.inl x1)] [] M := by
  unfold f_X8_tell
  refine s_run (b := [(.iload_n 1, 1), (.bipush 10, 2)]) 3 [some (.inr (.inr x0)), some (.inl x1)] [.inl (10 : Int32), .inl x1] (by decide +kernel) rfl ?_
  refine s_ic_lt (tgt := 32) (off := 29) (by decide +kernel) (by decide) (fun h1 => ?_) (fun h1 => ?_)
  · skip
    refine s_run (b := [(.iload_n 1, 1)]) 33 [some (.inr (.inr x0)), some (.inl x1)] [.inl x1] (by decide +kernel) rfl ?_
    refine s_ite (fun h2 => ?_) (fun h2 => ?_)
    · refine s_tabIn (off := 31) (tgt := 64) (dflt := 84) (lo := 0) (hi := 3) (offs := #[31, 36, 52, 68]) (len := 31) (0 : Int32) (by decide +kernel) h2 rfl rfl rfl (by decide) ?_
      change Sim l G Y_X8_tell lim _ _ 64 [some (.inr (.inr x0)), some (.inl x1)] [] M
      refine s_run (b := [(.aload_n 0, 1)]) 65 [some (.inr (.inr x0)), some (.inl x1)] [.inr (.inr x0)] (by decide +kernel) rfl ?_
      refine s_gI fl_8_36 rfl (by decide +kernel) (fun v3 => ?_)
      exact s_iret (by decide +kernel) rfl
    refine s_ite (fun h4 => ?_) (fun h4 => ?_)
    · refine s_tabIn (off := 36) (tgt := 69) (dflt := 84) (lo := 0) (hi := 3) (offs := #[31, 36, 52, 68]) (len := 31) (1 : Int32) (by decide +kernel) h4 rfl rfl rfl (by decide) ?_
      change Sim l G Y_X8_tell lim _ _ 69 [some (.inr (.inr x0)), some (.inl x1)] [] M
      refine s_run (b := [(.aload_n 0, 1)]) 70 [some (.inr (.inr x0)), some (.inl x1)] [.inr (.inr x0)] (by decide +kernel) rfl ?_
      refine s_gI fl_8_36 rfl (by decide +kernel) (fun v5 => ?_)
      refine s_if_ne (tgt := 80) (off := 7) (by decide +kernel) (by decide) (fun h6 => ?_) (fun h6 => ?_)
      · skip
        refine s_run (b := [(.iconst (-1), 1), (.goto 7, 3)]) 84 [some (.inr (.inr x0)), some (.inl x1)] [.inl (-1 : Int32)] (by decide +kernel) rfl ?_
        exact s_iret (by decide +kernel) rfl
      · skip
        refine s_run (b := [(.aload_n 0, 1)]) 81 [some (.inr (.inr x0)), some (.inl x1)] [.inr (.inr x0)] (by decide +kernel) rfl ?_
        refine s_cV (Z := Y_X8_inAll) (c := 8) (vs := []) (st := []) (rO := fun z => some (.inl z)) (mO := fun _ => M) zk_X8_inAll zi_X8_inAll q1023 rfl ⟨by decide, by decide⟩ ⟨rfl, rfl⟩ rfl rfl (Nat.le_of_ble_eq_true rfl) (by decide +kernel) (fun z hz => c_X8_inAll hz) (fun v7 => ?_)
        change Sim l G Y_X8_tell lim _ _ 84 [some (.inr (.inr x0)), some (.inl x1)] [.inl v7] M
        exact s_iret (by decide +kernel) rfl
    refine s_ite (fun h8 => ?_) (fun h8 => ?_)
    · refine s_tabIn (off := 52) (tgt := 85) (dflt := 84) (lo := 0) (hi := 3) (offs := #[31, 36, 52, 68]) (len := 31) (2 : Int32) (by decide +kernel) h8 rfl rfl rfl (by decide) ?_
      change Sim l G Y_X8_tell lim _ _ 85 [some (.inr (.inr x0)), some (.inl x1)] [] M
      refine s_run (b := [(.aload_n 0, 1)]) 86 [some (.inr (.inr x0)), some (.inl x1)] [.inr (.inr x0)] (by decide +kernel) rfl ?_
      refine s_gI fl_8_36 rfl (by decide +kernel) (fun v9 => ?_)
      refine s_if_ne (tgt := 96) (off := 7) (by decide +kernel) (by decide) (fun h10 => ?_) (fun h10 => ?_)
      · skip
        refine s_run (b := [(.iconst (-1), 1), (.goto 7, 3)]) 100 [some (.inr (.inr x0)), some (.inl x1)] [.inl (-1 : Int32)] (by decide +kernel) rfl ?_
        exact s_iret (by decide +kernel) rfl
      · skip
        refine s_run (b := [(.aload_n 0, 1)]) 97 [some (.inr (.inr x0)), some (.inl x1)] [.inr (.inr x0)] (by decide +kernel) rfl ?_
        refine s_cV (Z := Y_X8_inNone) (c := 8) (vs := []) (st := []) (rO := fun z => some (.inl z)) (mO := fun _ => M) zk_X8_inNone zi_X8_inNone q1027 rfl ⟨by decide, by decide⟩ ⟨rfl, rfl⟩ rfl rfl (Nat.le_of_ble_eq_true rfl) (by decide +kernel) (fun z hz => c_X8_inNone hz) (fun v11 => ?_)
        change Sim l G Y_X8_tell lim _ _ 100 [some (.inr (.inr x0)), some (.inl x1)] [.inl v11] M
        exact s_iret (by decide +kernel) rfl
    refine s_ite (fun h12 => ?_) (fun h12 => ?_)
    · refine s_tabIn (off := 68) (tgt := 101) (dflt := 84) (lo := 0) (hi := 3) (offs := #[31, 36, 52, 68]) (len := 31) (3 : Int32) (by decide +kernel) h12 rfl rfl rfl (by decide) ?_
      change Sim l G Y_X8_tell lim _ _ 101 [some (.inr (.inr x0)), some (.inl x1)] [] M
      refine s_run (b := [(.aload_n 0, 1)]) 102 [some (.inr (.inr x0)), some (.inl x1)] [.inr (.inr x0)] (by decide +kernel) rfl ?_
      refine s_gI fl_8_36 rfl (by decide +kernel) (fun v13 => ?_)
      refine s_if_ne (tgt := 112) (off := 7) (by decide +kernel) (by decide) (fun h14 => ?_) (fun h14 => ?_)
      · skip
        refine s_run (b := [(.iconst (-1), 1), (.goto 7, 3)]) 116 [some (.inr (.inr x0)), some (.inl x1)] [.inl (-1 : Int32)] (by decide +kernel) rfl ?_
        exact s_iret (by decide +kernel) rfl
      · skip
        refine s_run (b := [(.aload_n 0, 1)]) 113 [some (.inr (.inr x0)), some (.inl x1)] [.inr (.inr x0)] (by decide +kernel) rfl ?_
        refine s_cV (Z := Y_X8_deskToTry) (c := 8) (vs := []) (st := []) (rO := fun z => some (.inl z.1)) (mO := fun z => z.2) zk_X8_deskToTry zi_X8_deskToTry q1031 rfl ⟨by decide, by decide⟩ ⟨rfl, rfl⟩ rfl rfl (Nat.le_of_ble_eq_true rfl) (by decide +kernel) (fun z hz => c_X8_deskToTry hz) (fun z15 => ?_)
        change Sim l G Y_X8_tell lim _ _ 116 [some (.inr (.inr x0)), some (.inl x1)] [.inl z15.1] z15.2
        exact s_iret (by decide +kernel) rfl
    refine s_tabOut (tgt := 117) (dflt := 84) (lo := 0) (hi := 3) (offs := #[31, 36, 52, 68]) (len := 31) (by decide +kernel) (tab_out (fun k hk => by rcases (show k = 0 ∨ k = 1 ∨ k = 2 ∨ k = 3 by omega) with rfl | rfl | rfl | rfl <;> first | exact i32_ne h2 (by decide) | exact i32_ne h4 (by decide) | exact i32_ne h8 (by decide) | exact i32_ne h12 (by decide))) (by decide) ?_
    change Sim l G Y_X8_tell lim _ _ 117 [some (.inr (.inr x0)), some (.inl x1)] [] M
    refine s_run (b := [(.bipush (-2), 2)]) 119 [some (.inr (.inr x0)), some (.inl x1)] [.inl (-2 : Int32)] (by decide +kernel) rfl ?_
    exact s_iret (by decide +kernel) rfl
  · skip
    refine s_run (b := [(.iload_n 1, 1), (.bipush 10, 2), (.isub, 1), (.aload_n 0, 1)]) 11 [some (.inr (.inr x0)), some (.inl x1)] [.inr (.inr x0), .inl (x1 - (10 : Int32))] (by decide +kernel) rfl ?_
    refine s_gI fl_8_36 rfl (by decide +kernel) (fun v16 => ?_)
    refine s_ic_ge (tgt := 29) (off := 15) (by decide +kernel) (by decide) (fun h17 => ?_) (fun h17 => ?_)
    · skip
      refine s_run (b := [(.bipush (-2), 2)]) 31 [some (.inr (.inr x0)), some (.inl x1)] [.inl (-2 : Int32)] (by decide +kernel) rfl ?_
      exact s_iret (by decide +kernel) rfl
    · skip
      refine s_run (b := [(.aload_n 0, 1)]) 18 [some (.inr (.inr x0)), some (.inl x1)] [.inr (.inr x0)] (by decide +kernel) rfl ?_
      refine s_gR fl_8_9 rfl (by decide +kernel) (fun v18 => ?_)
      refine s_run (b := [(.iload_n 1, 1), (.bipush 10, 2), (.isub, 1)]) 25 [some (.inr (.inr x0)), some (.inl x1)] [.inl (x1 - (10 : Int32)), .inr (.inr v18)] (by decide +kernel) rfl ?_
      refine s_ia (by decide +kernel) (fun v19 => ?_)
      refine s_run (b := [(.goto 5, 3)]) 31 [some (.inr (.inr x0)), some (.inl x1)] [.inl v19] (by decide +kernel) rfl ?_
      exact s_iret (by decide +kernel) rfl
set_option maxRecDepth 20000 in
theorem c_X8_tell {l : Launch} {G : Gv} {M : Mem} {x0 : Nat} {x1 : Int32} {z : Int32 × Mem} (h : f_X8_tell M x0 x1 = some z) : MetS l G Y_X8_tell [.inr (.inr x0), .inl x1] M (some (.int z.1)) z.2 :=
  met_of (ls0 := [some (.inr (.inr x0)), some (.inl x1)]) (by decide) rfl (lv_in (m := 0) rfl) (sl_le (Nat.le_of_ble_eq_true rfl)) (by rw [h]; rfl) (Or.inl ⟨rfl, rfl⟩) (S_X8_tell M x0 x1)
def f_X11_fits (M : Mem) (x0 : Nat) (x1 : Int32) (x2 : Int32) (x3 : Int32) : Option (Int32 × Mem) :=
  (gR M 11 x0 0).bind fun v1 =>
  (ob M 9 v1).bind fun _ => (f_X9_officeAt M v1 x1).bind fun v2 =>
  (gR M 11 x0 0).bind fun v3 =>
  (ob M 9 v3).bind fun _ => (f_X9_logAt M v3 x2).bind fun v4 =>
  (if v2 = 0 then
    some ((-2 : Int32), M)
  else
    (if v4 = 0 then
      some ((-2 : Int32), M)
    else
      (ob M 4 v4).bind fun _ => (f_X4_tellsOnlyOf M v4 v2).bind fun v7 =>
      (if v7 = 0 then
        some ((-2 : Int32), M)
      else
        (gR M 11 x0 8).bind fun v9 =>
        (ob M 8 v9).bind fun _ => (f_X8_find M v9 v2 v4).bind fun z10 =>
        (gR z10 11 x0 8).bind fun v11 =>
        (ob z10 8 v11).bind fun _ => (f_X8_tell z10 v11 x3).bind fun z12 =>
        some (z12.1, z12.2))))
set_option maxRecDepth 20000 in
theorem S_X11_fits {l : Launch} {G : Gv} {lim : Nat × Nat} (M : Mem) (x0 : Nat) (x1 : Int32) (x2 : Int32) (x3 : Int32) : Sim l G Y_X11_fits lim (f_X11_fits M x0 x1 x2 x3) (fun z => some (some (.int z.1), z.2)) 0 [some (.inr (.inr x0)), some (.inl x1), some (.inl x2), some (.inl x3), none, none] [] M := by
  unfold f_X11_fits
  refine s_run (b := [(.aload_n 0, 1)]) 1 [some (.inr (.inr x0)), some (.inl x1), some (.inl x2), some (.inl x3), none, none] [.inr (.inr x0)] (by decide +kernel) rfl ?_
  refine s_gR fl_11_10 rfl (by decide +kernel) (fun v1 => ?_)
  refine s_run (b := [(.iload_n 1, 1)]) 5 [some (.inr (.inr x0)), some (.inl x1), some (.inl x2), some (.inl x3), none, none] [.inl x1, .inr (.inr v1)] (by decide +kernel) rfl ?_
  refine s_cV (Z := Y_X9_officeAt) (c := 9) (vs := [.inl x1]) (st := []) (rO := fun z => some (.inr (.inr z))) (mO := fun _ => M) zk_X9_officeAt zi_X9_officeAt q716 rfl ⟨by decide, by decide⟩ ⟨rfl, rfl⟩ rfl rfl (Nat.le_of_ble_eq_true rfl) (by decide +kernel) (fun z hz => c_X9_officeAt hz) (fun v2 => ?_)
  change Sim l G Y_X11_fits lim _ _ 8 [some (.inr (.inr x0)), some (.inl x1), some (.inl x2), some (.inl x3), none, none] [.inr (.inr v2)] M
  refine s_run (b := [(.astore 4, 2), (.aload_n 0, 1)]) 11 [some (.inr (.inr x0)), some (.inl x1), some (.inl x2), some (.inl x3), some (.inr (.inr v2)), none] [.inr (.inr x0)] (by decide +kernel) rfl ?_
  refine s_gR fl_11_10 rfl (by decide +kernel) (fun v3 => ?_)
  refine s_run (b := [(.iload_n 2, 1)]) 15 [some (.inr (.inr x0)), some (.inl x1), some (.inl x2), some (.inl x3), some (.inr (.inr v2)), none] [.inl x2, .inr (.inr v3)] (by decide +kernel) rfl ?_
  refine s_cV (Z := Y_X9_logAt) (c := 9) (vs := [.inl x2]) (st := []) (rO := fun z => some (.inr (.inr z))) (mO := fun _ => M) zk_X9_logAt zi_X9_logAt q981 rfl ⟨by decide, by decide⟩ ⟨rfl, rfl⟩ rfl rfl (Nat.le_of_ble_eq_true rfl) (by decide +kernel) (fun z hz => c_X9_logAt hz) (fun v4 => ?_)
  change Sim l G Y_X11_fits lim _ _ 18 [some (.inr (.inr x0)), some (.inl x1), some (.inl x2), some (.inl x3), some (.inr (.inr v2)), none] [.inr (.inr v4)] M
  refine s_run (b := [(.astore 5, 2), (.aload 4, 2)]) 22 [some (.inr (.inr x0)), some (.inl x1), some (.inl x2), some (.inl x3), some (.inr (.inr v2)), some (.inr (.inr v4))] [.inr (.inr v2)] (by decide +kernel) rfl ?_
  refine s_ifnull (tgt := 40) (off := 18) (by decide +kernel) (by decide) (fun h5 => ?_) (fun h5 => ?_)
  · skip
    refine s_run (b := [(.bipush (-2), 2)]) 42 [some (.inr (.inr x0)), some (.inl x1), some (.inl x2), some (.inl x3), some (.inr (.inr v2)), some (.inr (.inr v4))] [.inl (-2 : Int32)] (by decide +kernel) rfl ?_
    exact s_iret (by decide +kernel) rfl
  · skip
    refine s_run (b := [(.aload 5, 2)]) 27 [some (.inr (.inr x0)), some (.inl x1), some (.inl x2), some (.inl x3), some (.inr (.inr v2)), some (.inr (.inr v4))] [.inr (.inr v4)] (by decide +kernel) rfl ?_
    refine s_ifnull (tgt := 40) (off := 13) (by decide +kernel) (by decide) (fun h6 => ?_) (fun h6 => ?_)
    · skip
      refine s_run (b := [(.bipush (-2), 2)]) 42 [some (.inr (.inr x0)), some (.inl x1), some (.inl x2), some (.inl x3), some (.inr (.inr v2)), some (.inr (.inr v4))] [.inl (-2 : Int32)] (by decide +kernel) rfl ?_
      exact s_iret (by decide +kernel) rfl
    · skip
      refine s_run (b := [(.aload 5, 2), (.aload 4, 2)]) 34 [some (.inr (.inr x0)), some (.inl x1), some (.inl x2), some (.inl x3), some (.inr (.inr v2)), some (.inr (.inr v4))] [.inr (.inr v2), .inr (.inr v4)] (by decide +kernel) rfl ?_
      refine s_cV (Z := Y_X4_tellsOnlyOf) (c := 4) (vs := [.inr (.inr v2)]) (st := []) (rO := fun z => some (.inl z)) (mO := fun _ => M) zk_X4_tellsOnlyOf zi_X4_tellsOnlyOf q993 rfl ⟨by decide, by decide⟩ ⟨rfl, rfl⟩ rfl rfl (Nat.le_of_ble_eq_true rfl) (by decide +kernel) (fun z hz => c_X4_tellsOnlyOf hz) (fun v7 => ?_)
      change Sim l G Y_X11_fits lim _ _ 37 [some (.inr (.inr x0)), some (.inl x1), some (.inl x2), some (.inl x3), some (.inr (.inr v2)), some (.inr (.inr v4))] [.inl v7] M
      refine s_if_ne (tgt := 43) (off := 6) (by decide +kernel) (by decide) (fun h8 => ?_) (fun h8 => ?_)
      · skip
        refine s_run (b := [(.bipush (-2), 2)]) 42 [some (.inr (.inr x0)), some (.inl x1), some (.inl x2), some (.inl x3), some (.inr (.inr v2)), some (.inr (.inr v4))] [.inl (-2 : Int32)] (by decide +kernel) rfl ?_
        exact s_iret (by decide +kernel) rfl
      · skip
        refine s_run (b := [(.aload_n 0, 1)]) 44 [some (.inr (.inr x0)), some (.inl x1), some (.inl x2), some (.inl x3), some (.inr (.inr v2)), some (.inr (.inr v4))] [.inr (.inr x0)] (by decide +kernel) rfl ?_
        refine s_gR fl_11_62 rfl (by decide +kernel) (fun v9 => ?_)
        refine s_run (b := [(.aload 4, 2), (.aload 5, 2)]) 51 [some (.inr (.inr x0)), some (.inl x1), some (.inl x2), some (.inl x3), some (.inr (.inr v2)), some (.inr (.inr v4))] [.inr (.inr v4), .inr (.inr v2), .inr (.inr v9)] (by decide +kernel) rfl ?_
        refine s_cV (Z := Y_X8_find) (c := 8) (vs := [.inr (.inr v2), .inr (.inr v4)]) (st := []) (rO := fun _ => none) (mO := fun z => z) zk_X8_find zi_X8_find q998 rfl ⟨by decide, by decide⟩ ⟨rfl, rfl⟩ rfl rfl (Nat.le_of_ble_eq_true rfl) (by decide +kernel) (fun z hz => c_X8_find hz) (fun z10 => ?_)
        change Sim l G Y_X11_fits lim _ _ 54 [some (.inr (.inr x0)), some (.inl x1), some (.inl x2), some (.inl x3), some (.inr (.inr v2)), some (.inr (.inr v4))] [] z10
        refine s_run (b := [(.aload_n 0, 1)]) 55 [some (.inr (.inr x0)), some (.inl x1), some (.inl x2), some (.inl x3), some (.inr (.inr v2)), some (.inr (.inr v4))] [.inr (.inr x0)] (by decide +kernel) rfl ?_
        refine s_gR fl_11_62 rfl (by decide +kernel) (fun v11 => ?_)
        refine s_run (b := [(.iload_n 3, 1)]) 59 [some (.inr (.inr x0)), some (.inl x1), some (.inl x2), some (.inl x3), some (.inr (.inr v2)), some (.inr (.inr v4))] [.inl x3, .inr (.inr v11)] (by decide +kernel) rfl ?_
        refine s_cV (Z := Y_X8_tell) (c := 8) (vs := [.inl x3]) (st := []) (rO := fun z => some (.inl z.1)) (mO := fun z => z.2) zk_X8_tell zi_X8_tell q1019 rfl ⟨by decide, by decide⟩ ⟨rfl, rfl⟩ rfl rfl (Nat.le_of_ble_eq_true rfl) (by decide +kernel) (fun z hz => c_X8_tell hz) (fun z12 => ?_)
        change Sim l G Y_X11_fits lim _ _ 62 [some (.inr (.inr x0)), some (.inl x1), some (.inl x2), some (.inl x3), some (.inr (.inr v2)), some (.inr (.inr v4))] [.inl z12.1] z12.2
        exact s_iret (by decide +kernel) rfl
set_option maxRecDepth 20000 in
theorem c_X11_fits {l : Launch} {G : Gv} {M : Mem} {x0 : Nat} {x1 : Int32} {x2 : Int32} {x3 : Int32} {z : Int32 × Mem} (h : f_X11_fits M x0 x1 x2 x3 = some z) : MetS l G Y_X11_fits [.inr (.inr x0), .inl x1, .inl x2, .inl x3] M (some (.int z.1)) z.2 :=
  met_of (ls0 := [some (.inr (.inr x0)), some (.inl x1), some (.inl x2), some (.inl x3), none, none]) (by decide) rfl (lv_in (m := 2) rfl) (sl_le (Nat.le_of_ble_eq_true rfl)) (by rw [h]; rfl) (Or.inl ⟨rfl, rfl⟩) (S_X11_fits M x0 x1 x2 x3)
def f_X6_giftTo (M : Mem) (x0 : Nat) (x1 : Nat) (x2 : Int32) (x3 : Int32) (x4 : Int32) : Option (Int32) :=
  (gR M 5 x1 11).bind fun v1 =>
  (aI M 0 v1 x3).bind fun v2 =>
  (gR M 6 x0 6).bind fun v3 =>
  (aI M 0 v3 (((x3 + (1 : Int32)) * (256 : Int32)) + (x4 ||| ((1 : Int32) <<< (x2 &&& 31))))).bind fun v4 =>
  some (v2 + v4)
set_option maxRecDepth 20000 in
theorem S_X6_giftTo {l : Launch} {G : Gv} {lim : Nat × Nat} (M : Mem) (x0 : Nat) (x1 : Nat) (x2 : Int32) (x3 : Int32) (x4 : Int32) : Sim l G Y_X6_giftTo lim (f_X6_giftTo M x0 x1 x2 x3 x4) (fun z => some (some (.int z), M)) 0 [some (.inr (.inr x0)), some (.inr (.inr x1)), some (.inl x2), some (.inl x3), some (.inl x4)] [] M := by
  unfold f_X6_giftTo
  refine s_run (b := [(.aload_n 1, 1)]) 1 [some (.inr (.inr x0)), some (.inr (.inr x1)), some (.inl x2), some (.inl x3), some (.inl x4)] [.inr (.inr x1)] (by decide +kernel) rfl ?_
  refine s_gR fl_6_111 rfl (by decide +kernel) (fun v1 => ?_)
  refine s_run (b := [(.iload_n 3, 1)]) 5 [some (.inr (.inr x0)), some (.inr (.inr x1)), some (.inl x2), some (.inl x3), some (.inl x4)] [.inl x3, .inr (.inr v1)] (by decide +kernel) rfl ?_
  refine s_ia (by decide +kernel) (fun v2 => ?_)
  refine s_run (b := [(.aload_n 0, 1)]) 7 [some (.inr (.inr x0)), some (.inr (.inr x1)), some (.inl x2), some (.inl x3), some (.inl x4)] [.inr (.inr x0), .inl v2] (by decide +kernel) rfl ?_
  refine s_gR fl_6_32 rfl (by decide +kernel) (fun v3 => ?_)
  refine s_run (b := [(.iload_n 3, 1), (.iconst 1, 1), (.iadd, 1), (.sipush 256, 3), (.imul, 1), (.iload 4, 2), (.iconst 1, 1), (.iload_n 2, 1), (.ishl, 1), (.ior, 1), (.iadd, 1)]) 24 [some (.inr (.inr x0)), some (.inr (.inr x1)), some (.inl x2), some (.inl x3), some (.inl x4)] [.inl (((x3 + (1 : Int32)) * (256 : Int32)) + (x4 ||| ((1 : Int32) <<< (x2 &&& 31)))), .inr (.inr v3), .inl v2] (by decide +kernel) rfl ?_
  refine s_ia (by decide +kernel) (fun v4 => ?_)
  refine s_run (b := [(.iadd, 1)]) 26 [some (.inr (.inr x0)), some (.inr (.inr x1)), some (.inl x2), some (.inl x3), some (.inl x4)] [.inl (v2 + v4)] (by decide +kernel) rfl ?_
  exact s_iret (by decide +kernel) rfl
set_option maxRecDepth 20000 in
theorem c_X6_giftTo {l : Launch} {G : Gv} {M : Mem} {x0 : Nat} {x1 : Nat} {x2 : Int32} {x3 : Int32} {x4 : Int32} {z : Int32} (h : f_X6_giftTo M x0 x1 x2 x3 x4 = some z) : MetS l G Y_X6_giftTo [.inr (.inr x0), .inr (.inr x1), .inl x2, .inl x3, .inl x4] M (some (.int z)) M :=
  met_of (ls0 := [some (.inr (.inr x0)), some (.inr (.inr x1)), some (.inl x2), some (.inl x3), some (.inl x4)]) (by decide) rfl (lv_in (m := 0) rfl) (sl_le (Nat.le_of_ble_eq_true rfl)) (by rw [h]; rfl) (Or.inl ⟨rfl, rfl⟩) (S_X6_giftTo M x0 x1 x2 x3 x4)
def f_X6_takers (M : Mem) (x0 : Nat) (x1 : Int32) (x2 : Int32) : Option (Int32) :=
  (gR M 5 x0 10).bind fun v1 =>
  (aI M 0 v1 x1).bind fun v2 =>
  (gR M 5 x0 13).bind fun v3 =>
  (aI M 0 v3 v2).bind fun v4 =>
  some ((v4 ||| ((1 : Int32) <<< (v2 &&& 31))) &&& (x2 ^^^ (-1 : Int32)))
set_option maxRecDepth 20000 in
theorem S_X6_takers {l : Launch} {G : Gv} {lim : Nat × Nat} (M : Mem) (x0 : Nat) (x1 : Int32) (x2 : Int32) : Sim l G Y_X6_takers lim (f_X6_takers M x0 x1 x2) (fun z => some (some (.int z), M)) 0 [some (.inr (.inr x0)), some (.inl x1), some (.inl x2), none] [] M := by
  unfold f_X6_takers
  refine s_run (b := [(.aload_n 0, 1)]) 1 [some (.inr (.inr x0)), some (.inl x1), some (.inl x2), none] [.inr (.inr x0)] (by decide +kernel) rfl ?_
  refine s_gR fl_6_81 rfl (by decide +kernel) (fun v1 => ?_)
  refine s_run (b := [(.iload_n 1, 1)]) 5 [some (.inr (.inr x0)), some (.inl x1), some (.inl x2), none] [.inl x1, .inr (.inr v1)] (by decide +kernel) rfl ?_
  refine s_ia (by decide +kernel) (fun v2 => ?_)
  refine s_run (b := [(.istore_n 3, 1), (.aload_n 0, 1)]) 8 [some (.inr (.inr x0)), some (.inl x1), some (.inl x2), some (.inl v2)] [.inr (.inr x0)] (by decide +kernel) rfl ?_
  refine s_gR fl_6_108 rfl (by decide +kernel) (fun v3 => ?_)
  refine s_run (b := [(.iload_n 3, 1)]) 12 [some (.inr (.inr x0)), some (.inl x1), some (.inl x2), some (.inl v2)] [.inl v2, .inr (.inr v3)] (by decide +kernel) rfl ?_
  refine s_ia (by decide +kernel) (fun v4 => ?_)
  refine s_run (b := [(.iconst 1, 1), (.iload_n 3, 1), (.ishl, 1), (.ior, 1), (.iload_n 2, 1), (.iconst (-1), 1), (.ixor, 1), (.iand, 1)]) 21 [some (.inr (.inr x0)), some (.inl x1), some (.inl x2), some (.inl v2)] [.inl ((v4 ||| ((1 : Int32) <<< (v2 &&& 31))) &&& (x2 ^^^ (-1 : Int32)))] (by decide +kernel) rfl ?_
  exact s_iret (by decide +kernel) rfl
set_option maxRecDepth 20000 in
theorem c_X6_takers {l : Launch} {G : Gv} {M : Mem} {x0 : Nat} {x1 : Int32} {x2 : Int32} {z : Int32} (h : f_X6_takers M x0 x1 x2 = some z) : MetS l G Y_X6_takers [.inr (.inr x0), .inl x1, .inl x2] M (some (.int z)) M :=
  met_of (ls0 := [some (.inr (.inr x0)), some (.inl x1), some (.inl x2), none]) (by decide) rfl (lv_in (m := 1) rfl) (sl_le (Nat.le_of_ble_eq_true rfl)) (by rw [h]; rfl) (Or.inl ⟨rfl, rfl⟩) (S_X6_takers M x0 x1 x2)
def f_X6_bestGift_B27 (M : Mem) (x0 : Nat) (x1 : Nat) (x2 : Int32) (x3 : Int32) (x5 : Int32) (x4 : Int32) (x6 : Int32) : Option ((Int32 × Int32) ⊕ ((Int32))) :=
  (gI M 5 x1 0).bind fun v1 =>
  (if v1 ≤ x6 then
    some (.inr x4)
  else
    (if ((x5 >>> (x6 &&& 31)) &&& (1 : Int32)) = 0 then
      some (.inl (x4, (x6 + (1 : Int32))))
    else
      (ob M 6 x0).bind fun _ => (f_X6_giftTo M x0 x1 x6 x2 x3).bind fun v4 =>
      some (.inl ((imax x4 v4), (x6 + (1 : Int32))))))
def f_X6_bestGift_L27 (M : Mem) (x0 : Nat) (x1 : Nat) (x2 : Int32) (x3 : Int32) (x5 : Int32) (x4 : Int32) (x6 : Int32) : Option ((Int32)) := iter (fun s : Int32 × Int32 => f_X6_bestGift_B27 M x0 x1 x2 x3 x5 s.1 s.2) 1048576 (x4, x6)
set_option maxRecDepth 20000 in
theorem B_X6_bestGift_27 {l : Launch} {G : Gv} {lim : Nat × Nat} (M : Mem) (x0 : Nat) (x1 : Nat) (x2 : Int32) (x3 : Int32) (x5 : Int32) (x4 : Int32) (x6 : Int32) (K : (Int32 × Int32) ⊕ ((Int32)) → Option (Option Value × Mem)) (kk1 : ∀ (s4 : Int32) (s6 : Int32), SimR l G Y_X6_bestGift lim (K (.inl (s4, s6))) 27 [some (.inr (.inr x0)), some (.inr (.inr x1)), some (.inl x2), some (.inl x3), some (.inl s4), some (.inl x5), some (.inl s6)] [] M) (kk2_0 : ∀ (s4 : Int32), SimR l G Y_X6_bestGift lim (K (.inr s4)) 68 [none, none, none, none, some (.inl s4), none, none] [] M) : Sim l G Y_X6_bestGift lim (f_X6_bestGift_B27 M x0 x1 x2 x3 x5 x4 x6) K 27 [some (.inr (.inr x0)), some (.inr (.inr x1)), some (.inl x2), some (.inl x3), some (.inl x4), some (.inl x5), some (.inl x6)] [] M := by
  unfold f_X6_bestGift_B27
  refine s_run (b := [(.iload 6, 2), (.aload_n 1, 1)]) 30 [some (.inr (.inr x0)), some (.inr (.inr x1)), some (.inl x2), some (.inl x3), some (.inl x4), some (.inl x5), some (.inl x6)] [.inr (.inr x1), .inl x6] (by decide +kernel) rfl ?_
  refine s_gI fl_6_54 rfl (by decide +kernel) (fun v1 => ?_)
  refine s_ic_ge (tgt := 68) (off := 35) (by decide +kernel) (by decide) (fun h2 => ?_) (fun h2 => ?_)
  · skip
    exact s_lsub (ls' := [none, none, none, none, some (.inl x4), none, none]) ⟨rfl, trivial⟩ (kk2_0 x4)
  · skip
    refine s_run (b := [(.iload 5, 2), (.iload 6, 2), (.ishr, 1), (.iconst 1, 1), (.iand, 1)]) 43 [some (.inr (.inr x0)), some (.inr (.inr x1)), some (.inl x2), some (.inl x3), some (.inl x4), some (.inl x5), some (.inl x6)] [.inl ((x5 >>> (x6 &&& 31)) &&& (1 : Int32))] (by decide +kernel) rfl ?_
    refine s_if_eq (tgt := 62) (off := 19) (by decide +kernel) (by decide) (fun h3 => ?_) (fun h3 => ?_)
    · skip
      refine s_run (b := [(.iinc 6 1, 3), (.goto (-38), 3)]) 27 [some (.inr (.inr x0)), some (.inr (.inr x1)), some (.inl x2), some (.inl x3), some (.inl x4), some (.inl x5), some (.inl (x6 + (1 : Int32)))] [] (by decide +kernel) rfl ?_
      exact s_lsub (ls' := [some (.inr (.inr x0)), some (.inr (.inr x1)), some (.inl x2), some (.inl x3), some (.inl x4), some (.inl x5), some (.inl (x6 + (1 : Int32)))]) ⟨rfl, ⟨rfl, ⟨rfl, ⟨rfl, ⟨rfl, ⟨rfl, ⟨rfl, trivial⟩⟩⟩⟩⟩⟩⟩ (kk1 x4 (x6 + (1 : Int32)))
    · skip
      refine s_run (b := [(.iload 4, 2), (.aload_n 0, 1), (.aload_n 1, 1), (.iload 6, 2), (.iload_n 2, 1), (.iload_n 3, 1)]) 54 [some (.inr (.inr x0)), some (.inr (.inr x1)), some (.inl x2), some (.inl x3), some (.inl x4), some (.inl x5), some (.inl x6)] [.inl x3, .inl x2, .inl x6, .inr (.inr x1), .inr (.inr x0), .inl x4] (by decide +kernel) rfl ?_
      refine s_cV (Z := Y_X6_giftTo) (c := 6) (vs := [.inr (.inr x1), .inl x6, .inl x2, .inl x3]) (st := [.inl x4]) (rO := fun z => some (.inl z)) (mO := fun _ => M) zk_X6_giftTo zi_X6_giftTo q1166 rfl ⟨by decide, by decide⟩ ⟨rfl, rfl⟩ rfl rfl (Nat.le_of_ble_eq_true rfl) (by decide +kernel) (fun z hz => c_X6_giftTo hz) (fun v4 => ?_)
      change Sim l G Y_X6_bestGift lim _ _ 57 [some (.inr (.inr x0)), some (.inr (.inr x1)), some (.inl x2), some (.inl x3), some (.inl x4), some (.inl x5), some (.inl x6)] [.inl v4, .inl x4] M
      refine s_imax q1170 ⟨Nat.le_of_ble_eq_true rfl, Nat.le_of_ble_eq_true rfl⟩ (by decide +kernel) ?_
      change Sim l G Y_X6_bestGift lim _ _ 60 [some (.inr (.inr x0)), some (.inr (.inr x1)), some (.inl x2), some (.inl x3), some (.inl x4), some (.inl x5), some (.inl x6)] [.inl (imax x4 v4)] M
      refine s_run (b := [(.istore 4, 2), (.iinc 6 1, 3), (.goto (-38), 3)]) 27 [some (.inr (.inr x0)), some (.inr (.inr x1)), some (.inl x2), some (.inl x3), some (.inl (imax x4 v4)), some (.inl x5), some (.inl (x6 + (1 : Int32)))] [] (by decide +kernel) rfl ?_
      exact s_lsub (ls' := [some (.inr (.inr x0)), some (.inr (.inr x1)), some (.inl x2), some (.inl x3), some (.inl (imax x4 v4)), some (.inl x5), some (.inl (x6 + (1 : Int32)))]) ⟨rfl, ⟨rfl, ⟨rfl, ⟨rfl, ⟨rfl, ⟨rfl, ⟨rfl, trivial⟩⟩⟩⟩⟩⟩⟩ (kk1 (imax x4 v4) (x6 + (1 : Int32)))
set_option maxRecDepth 20000 in
theorem L_X6_bestGift_27 {l : Launch} {G : Gv} {lim : Nat × Nat} (M : Mem) (x0 : Nat) (x1 : Nat) (x2 : Int32) (x3 : Int32) (x5 : Int32) (x4 : Int32) (x6 : Int32) (K : ((Int32)) → Option (Option Value × Mem)) (kk2_0 : ∀ r : Int32, SimR l G Y_X6_bestGift lim (K r) 68 [none, none, none, none, some (.inl r), none, none] [] M) : Sim l G Y_X6_bestGift lim (f_X6_bestGift_L27 M x0 x1 x2 x3 x5 x4 x6) K 27 [some (.inr (.inr x0)), some (.inr (.inr x1)), some (.inl x2), some (.inl x3), some (.inl x4), some (.inl x5), some (.inl x6)] [] M :=
  s_iter (f := fun s : Int32 × Int32 => f_X6_bestGift_B27 M x0 x1 x2 x3 x5 s.1 s.2) (hd := 27) (cl := fun s => [some (.inr (.inr x0)), some (.inr (.inr x1)), some (.inl x2), some (.inl x3), some (.inl s.1), some (.inl x5), some (.inl s.2)]) (cm := fun s => M) (xp := fun _ => 68) (xl := fun r => [none, none, none, none, some (.inl r), none, none]) (xm := fun r => M) (fun s K h1 h2 => B_X6_bestGift_27 M x0 x1 x2 x3 x5 s.1 s.2 K (fun a4 a6 => h1 (a4, a6)) (fun a4 => h2 a4)) 1048576 (x4, x6) K kk2_0
def f_X6_bestGift (M : Mem) (x0 : Nat) (x1 : Nat) (x2 : Int32) (x3 : Int32) : Option (Int32) :=
  (gR M 6 x0 6).bind fun v1 =>
  (aI M 0 v1 (((x2 + (1 : Int32)) * (256 : Int32)) + x3)).bind fun v2 =>
  (f_X6_takers M x1 x2 x3).bind fun v3 =>
  (f_X6_bestGift_L27 M x0 x1 x2 x3 v3 v2 (0 : Int32)).bind fun r4 =>
  some r4
set_option maxRecDepth 20000 in
theorem S_X6_bestGift {l : Launch} {G : Gv} {lim : Nat × Nat} (M : Mem) (x0 : Nat) (x1 : Nat) (x2 : Int32) (x3 : Int32) : Sim l G Y_X6_bestGift lim (f_X6_bestGift M x0 x1 x2 x3) (fun z => some (some (.int z), M)) 0 [some (.inr (.inr x0)), some (.inr (.inr x1)), some (.inl x2), some (.inl x3), none, none, none] [] M := by
  unfold f_X6_bestGift
  refine s_run (b := [(.aload_n 0, 1)]) 1 [some (.inr (.inr x0)), some (.inr (.inr x1)), some (.inl x2), some (.inl x3), none, none, none] [.inr (.inr x0)] (by decide +kernel) rfl ?_
  refine s_gR fl_6_32 rfl (by decide +kernel) (fun v1 => ?_)
  refine s_run (b := [(.iload_n 2, 1), (.iconst 1, 1), (.iadd, 1), (.sipush 256, 3), (.imul, 1), (.iload_n 3, 1), (.iadd, 1)]) 13 [some (.inr (.inr x0)), some (.inr (.inr x1)), some (.inl x2), some (.inl x3), none, none, none] [.inl (((x2 + (1 : Int32)) * (256 : Int32)) + x3), .inr (.inr v1)] (by decide +kernel) rfl ?_
  refine s_ia (by decide +kernel) (fun v2 => ?_)
  refine s_run (b := [(.istore 4, 2), (.aload_n 1, 1), (.iload_n 2, 1), (.iload_n 3, 1)]) 19 [some (.inr (.inr x0)), some (.inr (.inr x1)), some (.inl x2), some (.inl x3), some (.inl v2), none, none] [.inl x3, .inl x2, .inr (.inr x1)] (by decide +kernel) rfl ?_
  refine s_cS (Z := Y_X6_takers) (vs := [.inr (.inr x1), .inl x2, .inl x3]) (st := []) (rO := fun z => some (.inl z)) (mO := fun _ => M) zk_X6_takers q1164 q1163 ⟨by decide, by decide⟩ ⟨rfl, rfl⟩ rfl rfl (Nat.le_of_ble_eq_true rfl) (by decide +kernel) (fun z hz => c_X6_takers hz) (fun v3 => ?_)
  change Sim l G Y_X6_bestGift lim _ _ 22 [some (.inr (.inr x0)), some (.inr (.inr x1)), some (.inl x2), some (.inl x3), some (.inl v2), none, none] [.inl v3] M
  refine s_run (b := [(.istore 5, 2), (.iconst 0, 1), (.istore 6, 2)]) 27 [some (.inr (.inr x0)), some (.inr (.inr x1)), some (.inl x2), some (.inl x3), some (.inl v2), some (.inl v3), some (.inl (0 : Int32))] [] (by decide +kernel) rfl ?_
  refine s_lsub (ls' := [some (.inr (.inr x0)), some (.inr (.inr x1)), some (.inl x2), some (.inl x3), some (.inl v2), some (.inl v3), some (.inl (0 : Int32))]) ⟨rfl, ⟨rfl, ⟨rfl, ⟨rfl, ⟨rfl, ⟨rfl, ⟨rfl, trivial⟩⟩⟩⟩⟩⟩⟩ ?_
  refine sim_bind (L_X6_bestGift_27 M x0 x1 x2 x3 v3 v2 (0 : Int32) _ (fun r4 => ?_))
  change Sim l G Y_X6_bestGift lim _ _ 68 [none, none, none, none, some (.inl r4), none, none] [] M
  refine s_run (b := [(.iload 4, 2)]) 70 [none, none, none, none, some (.inl r4), none, none] [.inl r4] (by decide +kernel) rfl ?_
  exact s_iret (by decide +kernel) rfl
set_option maxRecDepth 20000 in
theorem c_X6_bestGift {l : Launch} {G : Gv} {M : Mem} {x0 : Nat} {x1 : Nat} {x2 : Int32} {x3 : Int32} {z : Int32} (h : f_X6_bestGift M x0 x1 x2 x3 = some z) : MetS l G Y_X6_bestGift [.inr (.inr x0), .inr (.inr x1), .inl x2, .inl x3] M (some (.int z)) M :=
  met_of (ls0 := [some (.inr (.inr x0)), some (.inr (.inr x1)), some (.inl x2), some (.inl x3), none, none, none]) (by decide) rfl (lv_in (m := 3) rfl) (sl_le (Nat.le_of_ble_eq_true rfl)) (by rw [h]; rfl) (Or.inl ⟨rfl, rfl⟩) (S_X6_bestGift M x0 x1 x2 x3)
def f_X6_firstTaker_B11 (M : Mem) (x0 : Nat) (x1 : Nat) (x2 : Int32) (x3 : Int32) (x4 : Int32) (x5 : Int32) : Option ((Int32) ⊕ ((Int32) ⊕ (Unit))) :=
  (gI M 5 x1 0).bind fun v1 =>
  (if v1 ≤ x5 then
    some (.inr (.inr ()))
  else
    (if ((x4 >>> (x5 &&& 31)) &&& (1 : Int32)) = 0 then
      some (.inl (x5 + (1 : Int32)))
    else
      (ob M 6 x0).bind fun _ => (f_X6_giftTo M x0 x1 x5 x2 x3).bind fun v4 =>
      (gR M 6 x0 6).bind fun v5 =>
      (aI M 0 v5 ((x2 * (256 : Int32)) + x3)).bind fun v6 =>
      (if v4 = v6 then
        some (.inr (.inl x5))
      else
        some (.inl (x5 + (1 : Int32))))))
def f_X6_firstTaker_L11 (M : Mem) (x0 : Nat) (x1 : Nat) (x2 : Int32) (x3 : Int32) (x4 : Int32) (x5 : Int32) : Option ((Int32) ⊕ (Unit)) := iter (fun s : Int32 => f_X6_firstTaker_B11 M x0 x1 x2 x3 x4 s) 1048576 x5
set_option maxRecDepth 20000 in
theorem B_X6_firstTaker_11 {l : Launch} {G : Gv} {lim : Nat × Nat} (M : Mem) (x0 : Nat) (x1 : Nat) (x2 : Int32) (x3 : Int32) (x4 : Int32) (x5 : Int32) (K : (Int32) ⊕ ((Int32) ⊕ (Unit)) → Option (Option Value × Mem)) (kk1 : ∀ (s5 : Int32), SimR l G Y_X6_firstTaker lim (K (.inl s5)) 11 [some (.inr (.inr x0)), some (.inr (.inr x1)), some (.inl x2), some (.inl x3), some (.inl x4), some (.inl s5)] [] M) (kk2_0 : ∀ (s5 : Int32), SimR l G Y_X6_firstTaker lim (K (.inr (.inl s5))) 54 [none, none, none, none, none, some (.inl s5)] [] M) (kk2_1 : SimR l G Y_X6_firstTaker lim (K (.inr (.inr ()))) 63 [none, none, none, none, none, none] [] M) : Sim l G Y_X6_firstTaker lim (f_X6_firstTaker_B11 M x0 x1 x2 x3 x4 x5) K 11 [some (.inr (.inr x0)), some (.inr (.inr x1)), some (.inl x2), some (.inl x3), some (.inl x4), some (.inl x5)] [] M := by
  unfold f_X6_firstTaker_B11
  refine s_run (b := [(.iload 5, 2), (.aload_n 1, 1)]) 14 [some (.inr (.inr x0)), some (.inr (.inr x1)), some (.inl x2), some (.inl x3), some (.inl x4), some (.inl x5)] [.inr (.inr x1), .inl x5] (by decide +kernel) rfl ?_
  refine s_gI fl_6_54 rfl (by decide +kernel) (fun v1 => ?_)
  refine s_ic_ge (tgt := 63) (off := 46) (by decide +kernel) (by decide) (fun h2 => ?_) (fun h2 => ?_)
  · skip
    exact s_lsub (ls' := [none, none, none, none, none, none]) trivial (kk2_1 )
  · skip
    refine s_run (b := [(.iload 4, 2), (.iload 5, 2), (.ishr, 1), (.iconst 1, 1), (.iand, 1)]) 27 [some (.inr (.inr x0)), some (.inr (.inr x1)), some (.inl x2), some (.inl x3), some (.inl x4), some (.inl x5)] [.inl ((x4 >>> (x5 &&& 31)) &&& (1 : Int32))] (by decide +kernel) rfl ?_
    refine s_if_eq (tgt := 57) (off := 30) (by decide +kernel) (by decide) (fun h3 => ?_) (fun h3 => ?_)
    · skip
      refine s_run (b := [(.iinc 5 1, 3), (.goto (-49), 3)]) 11 [some (.inr (.inr x0)), some (.inr (.inr x1)), some (.inl x2), some (.inl x3), some (.inl x4), some (.inl (x5 + (1 : Int32)))] [] (by decide +kernel) rfl ?_
      exact s_lsub (ls' := [some (.inr (.inr x0)), some (.inr (.inr x1)), some (.inl x2), some (.inl x3), some (.inl x4), some (.inl (x5 + (1 : Int32)))]) ⟨rfl, ⟨rfl, ⟨rfl, ⟨rfl, ⟨rfl, ⟨rfl, trivial⟩⟩⟩⟩⟩⟩ (kk1 (x5 + (1 : Int32)))
    · skip
      refine s_run (b := [(.aload_n 0, 1), (.aload_n 1, 1), (.iload 5, 2), (.iload_n 2, 1), (.iload_n 3, 1)]) 36 [some (.inr (.inr x0)), some (.inr (.inr x1)), some (.inl x2), some (.inl x3), some (.inl x4), some (.inl x5)] [.inl x3, .inl x2, .inl x5, .inr (.inr x1), .inr (.inr x0)] (by decide +kernel) rfl ?_
      refine s_cV (Z := Y_X6_giftTo) (c := 6) (vs := [.inr (.inr x1), .inl x5, .inl x2, .inl x3]) (st := []) (rO := fun z => some (.inl z)) (mO := fun _ => M) zk_X6_giftTo zi_X6_giftTo q1166 rfl ⟨by decide, by decide⟩ ⟨rfl, rfl⟩ rfl rfl (Nat.le_of_ble_eq_true rfl) (by decide +kernel) (fun z hz => c_X6_giftTo hz) (fun v4 => ?_)
      change Sim l G Y_X6_firstTaker lim _ _ 39 [some (.inr (.inr x0)), some (.inr (.inr x1)), some (.inl x2), some (.inl x3), some (.inl x4), some (.inl x5)] [.inl v4] M
      refine s_run (b := [(.aload_n 0, 1)]) 40 [some (.inr (.inr x0)), some (.inr (.inr x1)), some (.inl x2), some (.inl x3), some (.inl x4), some (.inl x5)] [.inr (.inr x0), .inl v4] (by decide +kernel) rfl ?_
      refine s_gR fl_6_32 rfl (by decide +kernel) (fun v5 => ?_)
      refine s_run (b := [(.iload_n 2, 1), (.sipush 256, 3), (.imul, 1), (.iload_n 3, 1), (.iadd, 1)]) 50 [some (.inr (.inr x0)), some (.inr (.inr x1)), some (.inl x2), some (.inl x3), some (.inl x4), some (.inl x5)] [.inl ((x2 * (256 : Int32)) + x3), .inr (.inr v5), .inl v4] (by decide +kernel) rfl ?_
      refine s_ia (by decide +kernel) (fun v6 => ?_)
      refine s_ic_ne (tgt := 57) (off := 6) (by decide +kernel) (by decide) (fun h7 => ?_) (fun h7 => ?_)
      · skip
        exact s_lsub (ls' := [none, none, none, none, none, some (.inl x5)]) ⟨rfl, trivial⟩ (kk2_0 x5)
      · skip
        refine s_run (b := [(.iinc 5 1, 3), (.goto (-49), 3)]) 11 [some (.inr (.inr x0)), some (.inr (.inr x1)), some (.inl x2), some (.inl x3), some (.inl x4), some (.inl (x5 + (1 : Int32)))] [] (by decide +kernel) rfl ?_
        exact s_lsub (ls' := [some (.inr (.inr x0)), some (.inr (.inr x1)), some (.inl x2), some (.inl x3), some (.inl x4), some (.inl (x5 + (1 : Int32)))]) ⟨rfl, ⟨rfl, ⟨rfl, ⟨rfl, ⟨rfl, ⟨rfl, trivial⟩⟩⟩⟩⟩⟩ (kk1 (x5 + (1 : Int32)))
set_option maxRecDepth 20000 in
theorem L_X6_firstTaker_11 {l : Launch} {G : Gv} {lim : Nat × Nat} (M : Mem) (x0 : Nat) (x1 : Nat) (x2 : Int32) (x3 : Int32) (x4 : Int32) (x5 : Int32) (K : ((Int32) ⊕ (Unit)) → Option (Option Value × Mem)) (kk2_0 : ∀ r : Int32, SimR l G Y_X6_firstTaker lim (K (.inl r)) 54 [none, none, none, none, none, some (.inl r)] [] M) (kk2_1 : ∀ r : Unit, SimR l G Y_X6_firstTaker lim (K (.inr r)) 63 [none, none, none, none, none, none] [] M) : Sim l G Y_X6_firstTaker lim (f_X6_firstTaker_L11 M x0 x1 x2 x3 x4 x5) K 11 [some (.inr (.inr x0)), some (.inr (.inr x1)), some (.inl x2), some (.inl x3), some (.inl x4), some (.inl x5)] [] M :=
  s_iter (f := fun s : Int32 => f_X6_firstTaker_B11 M x0 x1 x2 x3 x4 s) (hd := 11) (cl := fun s => [some (.inr (.inr x0)), some (.inr (.inr x1)), some (.inl x2), some (.inl x3), some (.inl x4), some (.inl s)]) (cm := fun s => M) (xp := (fun r => match r with | .inl r => 54 | .inr r => 63)) (xl := (fun r => match r with | .inl r => [none, none, none, none, none, some (.inl r)] | .inr r => [none, none, none, none, none, none])) (xm := (fun r => match r with | .inl r => M | .inr r => M)) (fun s K h1 h2 => B_X6_firstTaker_11 M x0 x1 x2 x3 x4 s K (fun a5 => h1 a5) (fun a5 => h2 (.inl a5)) (h2 (.inr ()))) 1048576 x5 K (fun r => by
    rcases r with r | r
    · exact kk2_0 r
    · exact kk2_1 r)
def f_X6_firstTaker (M : Mem) (x0 : Nat) (x1 : Nat) (x2 : Int32) (x3 : Int32) : Option (Int32) :=
  (f_X6_takers M x1 x2 x3).bind fun v1 =>
  ((f_X6_firstTaker_L11 M x0 x1 x2 x3 v1 (0 : Int32)).bind fun r2 => match r2 with
  | .inl r2 => some r2
  | .inr r2 => some (8 : Int32))
set_option maxRecDepth 20000 in
theorem S_X6_firstTaker {l : Launch} {G : Gv} {lim : Nat × Nat} (M : Mem) (x0 : Nat) (x1 : Nat) (x2 : Int32) (x3 : Int32) : Sim l G Y_X6_firstTaker lim (f_X6_firstTaker M x0 x1 x2 x3) (fun z => some (some (.int z), M)) 0 [some (.inr (.inr x0)), some (.inr (.inr x1)), some (.inl x2), some (.inl x3), none, none] [] M := by
  unfold f_X6_firstTaker
  refine s_run (b := [(.aload_n 1, 1), (.iload_n 2, 1), (.iload_n 3, 1)]) 3 [some (.inr (.inr x0)), some (.inr (.inr x1)), some (.inl x2), some (.inl x3), none, none] [.inl x3, .inl x2, .inr (.inr x1)] (by decide +kernel) rfl ?_
  refine s_cS (Z := Y_X6_takers) (vs := [.inr (.inr x1), .inl x2, .inl x3]) (st := []) (rO := fun z => some (.inl z)) (mO := fun _ => M) zk_X6_takers q1164 q1163 ⟨by decide, by decide⟩ ⟨rfl, rfl⟩ rfl rfl (Nat.le_of_ble_eq_true rfl) (by decide +kernel) (fun z hz => c_X6_takers hz) (fun v1 => ?_)
  change Sim l G Y_X6_firstTaker lim _ _ 6 [some (.inr (.inr x0)), some (.inr (.inr x1)), some (.inl x2), some (.inl x3), none, none] [.inl v1] M
  refine s_run (b := [(.istore 4, 2), (.iconst 0, 1), (.istore 5, 2)]) 11 [some (.inr (.inr x0)), some (.inr (.inr x1)), some (.inl x2), some (.inl x3), some (.inl v1), some (.inl (0 : Int32))] [] (by decide +kernel) rfl ?_
  refine s_lsub (ls' := [some (.inr (.inr x0)), some (.inr (.inr x1)), some (.inl x2), some (.inl x3), some (.inl v1), some (.inl (0 : Int32))]) ⟨rfl, ⟨rfl, ⟨rfl, ⟨rfl, ⟨rfl, ⟨rfl, trivial⟩⟩⟩⟩⟩⟩ ?_
  refine sim_bind (L_X6_firstTaker_11 M x0 x1 x2 x3 v1 (0 : Int32) _ (fun r2 => ?_) (fun r2 => ?_))
  · change Sim l G Y_X6_firstTaker lim _ _ 54 [none, none, none, none, none, some (.inl r2)] [] M
    refine s_run (b := [(.iload 5, 2)]) 56 [none, none, none, none, none, some (.inl r2)] [.inl r2] (by decide +kernel) rfl ?_
    exact s_iret (by decide +kernel) rfl
  · change Sim l G Y_X6_firstTaker lim _ _ 63 [none, none, none, none, none, none] [] M
    refine s_run (b := [(.bipush 8, 2)]) 65 [none, none, none, none, none, none] [.inl (8 : Int32)] (by decide +kernel) rfl ?_
    exact s_iret (by decide +kernel) rfl
set_option maxRecDepth 20000 in
theorem c_X6_firstTaker {l : Launch} {G : Gv} {M : Mem} {x0 : Nat} {x1 : Nat} {x2 : Int32} {x3 : Int32} {z : Int32} (h : f_X6_firstTaker M x0 x1 x2 x3 = some z) : MetS l G Y_X6_firstTaker [.inr (.inr x0), .inr (.inr x1), .inl x2, .inl x3] M (some (.int z)) M :=
  met_of (ls0 := [some (.inr (.inr x0)), some (.inr (.inr x1)), some (.inl x2), some (.inl x3), none, none]) (by decide) rfl (lv_in (m := 2) rfl) (sl_le (Nat.le_of_ble_eq_true rfl)) (by rw [h]; rfl) (Or.inl ⟨rfl, rfl⟩) (S_X6_firstTaker M x0 x1 x2 x3)
def f_X6_giveCalls_B2 (M : Mem) (x0 : Nat) (x1 : Nat) (x2 : Int32) : Option ((Int32 × Mem) ⊕ ((Mem))) :=
  (if (256 : Int32) ≤ x2 then
    some (.inr M)
  else
    (gR M 6 x0 6).bind fun v2 =>
    (gI M 5 x1 1).bind fun v3 =>
    (sI M 0 v2 ((v3 * (256 : Int32)) + x2) (0 : Int32)).bind fun M4 =>
    some (.inl ((x2 + (1 : Int32)), M4)))
def f_X6_giveCalls_L2 (M : Mem) (x0 : Nat) (x1 : Nat) (x2 : Int32) : Option ((Mem)) := iter (fun s : Int32 × Mem => f_X6_giveCalls_B2 s.2 x0 x1 s.1) 1048576 (x2, M)
set_option maxRecDepth 20000 in
theorem B_X6_giveCalls_2 {l : Launch} {G : Gv} {lim : Nat × Nat} (M : Mem) (x0 : Nat) (x1 : Nat) (x2 : Int32) (K : (Int32 × Mem) ⊕ ((Mem)) → Option (Option Value × Mem)) (kk1 : ∀ (s2 : Int32) (s_ : Mem), SimR l G Y_X6_giveCalls lim (K (.inl (s2, s_))) 2 [some (.inr (.inr x0)), some (.inr (.inr x1)), some (.inl s2), none] [] s_) (kk2_0 : ∀ (s_ : Mem), SimR l G Y_X6_giveCalls lim (K (.inr s_)) 31 [some (.inr (.inr x0)), some (.inr (.inr x1)), none, none] [] s_) : Sim l G Y_X6_giveCalls lim (f_X6_giveCalls_B2 M x0 x1 x2) K 2 [some (.inr (.inr x0)), some (.inr (.inr x1)), some (.inl x2), none] [] M := by
  unfold f_X6_giveCalls_B2
  refine s_run (b := [(.iload_n 2, 1), (.sipush 256, 3)]) 6 [some (.inr (.inr x0)), some (.inr (.inr x1)), some (.inl x2), none] [.inl (256 : Int32), .inl x2] (by decide +kernel) rfl ?_
  refine s_ic_ge (tgt := 31) (off := 25) (by decide +kernel) (by decide) (fun h1 => ?_) (fun h1 => ?_)
  · skip
    exact s_lsub (ls' := [some (.inr (.inr x0)), some (.inr (.inr x1)), none, none]) ⟨rfl, ⟨rfl, trivial⟩⟩ (kk2_0 M)
  · skip
    refine s_run (b := [(.aload_n 0, 1)]) 10 [some (.inr (.inr x0)), some (.inr (.inr x1)), some (.inl x2), none] [.inr (.inr x0)] (by decide +kernel) rfl ?_
    refine s_gR fl_6_32 rfl (by decide +kernel) (fun v2 => ?_)
    refine s_run (b := [(.aload_n 1, 1)]) 14 [some (.inr (.inr x0)), some (.inr (.inr x1)), some (.inl x2), none] [.inr (.inr x1), .inr (.inr v2)] (by decide +kernel) rfl ?_
    refine s_gI fl_6_78 rfl (by decide +kernel) (fun v3 => ?_)
    refine s_run (b := [(.sipush 256, 3), (.imul, 1), (.iload_n 2, 1), (.iadd, 1), (.iconst 0, 1)]) 24 [some (.inr (.inr x0)), some (.inr (.inr x1)), some (.inl x2), none] [.inl (0 : Int32), .inl ((v3 * (256 : Int32)) + x2), .inr (.inr v2)] (by decide +kernel) rfl ?_
    refine s_is (by decide +kernel) (fun M4 => ?_)
    refine s_run (b := [(.iinc 2 1, 3), (.goto (-26), 3)]) 2 [some (.inr (.inr x0)), some (.inr (.inr x1)), some (.inl (x2 + (1 : Int32))), none] [] (by decide +kernel) rfl ?_
    exact s_lsub (ls' := [some (.inr (.inr x0)), some (.inr (.inr x1)), some (.inl (x2 + (1 : Int32))), none]) ⟨rfl, ⟨rfl, ⟨rfl, trivial⟩⟩⟩ (kk1 (x2 + (1 : Int32)) M4)
set_option maxRecDepth 20000 in
theorem L_X6_giveCalls_2 {l : Launch} {G : Gv} {lim : Nat × Nat} (M : Mem) (x0 : Nat) (x1 : Nat) (x2 : Int32) (K : ((Mem)) → Option (Option Value × Mem)) (kk2_0 : ∀ r : Mem, SimR l G Y_X6_giveCalls lim (K r) 31 [some (.inr (.inr x0)), some (.inr (.inr x1)), none, none] [] r) : Sim l G Y_X6_giveCalls lim (f_X6_giveCalls_L2 M x0 x1 x2) K 2 [some (.inr (.inr x0)), some (.inr (.inr x1)), some (.inl x2), none] [] M :=
  s_iter (f := fun s : Int32 × Mem => f_X6_giveCalls_B2 s.2 x0 x1 s.1) (hd := 2) (cl := fun s => [some (.inr (.inr x0)), some (.inr (.inr x1)), some (.inl s.1), none]) (cm := fun s => s.2) (xp := fun _ => 31) (xl := fun r => [some (.inr (.inr x0)), some (.inr (.inr x1)), none, none]) (xm := fun r => r) (fun s K h1 h2 => B_X6_giveCalls_2 s.2 x0 x1 s.1 K (fun a2 a_ => h1 (a2, a_)) (fun a_ => h2 a_)) 1048576 (x2, M) K kk2_0
def f_X6_giveCalls_B44 (M : Mem) (x0 : Nat) (x1 : Nat) (x2 : Int32) (x3 : Int32) : Option ((Int32 × Mem) ⊕ ((Mem))) :=
  (ob M 5 x1).bind fun _ => (f_X5_everybody M x1).bind fun v1 =>
  (if v1 < x3 then
    some (.inr M)
  else
    (gR M 6 x0 6).bind fun v3 =>
    (ob M 6 x0).bind fun _ => (f_X6_bestGift M x0 x1 x2 x3).bind fun v4 =>
    (sI M 0 v3 ((x2 * (256 : Int32)) + x3) v4).bind fun M5 =>
    some (.inl ((x3 + (1 : Int32)), M5)))
def f_X6_giveCalls_L44 (M : Mem) (x0 : Nat) (x1 : Nat) (x2 : Int32) (x3 : Int32) : Option ((Mem)) := iter (fun s : Int32 × Mem => f_X6_giveCalls_B44 s.2 x0 x1 x2 s.1) 1048576 (x3, M)
set_option maxRecDepth 20000 in
theorem B_X6_giveCalls_44 {l : Launch} {G : Gv} {lim : Nat × Nat} (M : Mem) (x0 : Nat) (x1 : Nat) (x2 : Int32) (x3 : Int32) (K : (Int32 × Mem) ⊕ ((Mem)) → Option (Option Value × Mem)) (kk1 : ∀ (s3 : Int32) (s_ : Mem), SimR l G Y_X6_giveCalls lim (K (.inl (s3, s_))) 44 [some (.inr (.inr x0)), some (.inr (.inr x1)), some (.inl x2), some (.inl s3)] [] s_) (kk2_0 : ∀ (s_ : Mem), SimR l G Y_X6_giveCalls lim (K (.inr s_)) 77 [some (.inr (.inr x0)), some (.inr (.inr x1)), some (.inl x2), none] [] s_) : Sim l G Y_X6_giveCalls lim (f_X6_giveCalls_B44 M x0 x1 x2 x3) K 44 [some (.inr (.inr x0)), some (.inr (.inr x1)), some (.inl x2), some (.inl x3)] [] M := by
  unfold f_X6_giveCalls_B44
  refine s_run (b := [(.iload_n 3, 1), (.aload_n 1, 1)]) 46 [some (.inr (.inr x0)), some (.inr (.inr x1)), some (.inl x2), some (.inl x3)] [.inr (.inr x1), .inl x3] (by decide +kernel) rfl ?_
  refine s_cV (Z := Y_X5_everybody) (c := 5) (vs := []) (st := [.inl x3]) (rO := fun z => some (.inl z)) (mO := fun _ => M) zk_X5_everybody zi_X5_everybody q858 rfl ⟨by decide, by decide⟩ ⟨rfl, rfl⟩ rfl rfl (Nat.le_of_ble_eq_true rfl) (by decide +kernel) (fun z hz => c_X5_everybody hz) (fun v1 => ?_)
  change Sim l G Y_X6_giveCalls lim _ _ 49 [some (.inr (.inr x0)), some (.inr (.inr x1)), some (.inl x2), some (.inl x3)] [.inl v1, .inl x3] M
  refine s_ic_gt (tgt := 77) (off := 28) (by decide +kernel) (by decide) (fun h2 => ?_) (fun h2 => ?_)
  · skip
    exact s_lsub (ls' := [some (.inr (.inr x0)), some (.inr (.inr x1)), some (.inl x2), none]) ⟨rfl, ⟨rfl, ⟨rfl, trivial⟩⟩⟩ (kk2_0 M)
  · skip
    refine s_run (b := [(.aload_n 0, 1)]) 53 [some (.inr (.inr x0)), some (.inr (.inr x1)), some (.inl x2), some (.inl x3)] [.inr (.inr x0)] (by decide +kernel) rfl ?_
    refine s_gR fl_6_32 rfl (by decide +kernel) (fun v3 => ?_)
    refine s_run (b := [(.iload_n 2, 1), (.sipush 256, 3), (.imul, 1), (.iload_n 3, 1), (.iadd, 1), (.aload_n 0, 1), (.aload_n 1, 1), (.iload_n 2, 1), (.iload_n 3, 1)]) 67 [some (.inr (.inr x0)), some (.inr (.inr x1)), some (.inl x2), some (.inl x3)] [.inl x3, .inl x2, .inr (.inr x1), .inr (.inr x0), .inl ((x2 * (256 : Int32)) + x3), .inr (.inr v3)] (by decide +kernel) rfl ?_
    refine s_cV (Z := Y_X6_bestGift) (c := 6) (vs := [.inr (.inr x1), .inl x2, .inl x3]) (st := [.inl ((x2 * (256 : Int32)) + x3), .inr (.inr v3)]) (rO := fun z => some (.inl z)) (mO := fun _ => M) zk_X6_bestGift zi_X6_bestGift q1159 rfl ⟨by decide, by decide⟩ ⟨rfl, rfl⟩ rfl rfl (Nat.le_of_ble_eq_true rfl) (by decide +kernel) (fun z hz => c_X6_bestGift hz) (fun v4 => ?_)
    change Sim l G Y_X6_giveCalls lim _ _ 70 [some (.inr (.inr x0)), some (.inr (.inr x1)), some (.inl x2), some (.inl x3)] [.inl v4, .inl ((x2 * (256 : Int32)) + x3), .inr (.inr v3)] M
    refine s_is (by decide +kernel) (fun M5 => ?_)
    refine s_run (b := [(.iinc 3 1, 3), (.goto (-30), 3)]) 44 [some (.inr (.inr x0)), some (.inr (.inr x1)), some (.inl x2), some (.inl (x3 + (1 : Int32)))] [] (by decide +kernel) rfl ?_
    exact s_lsub (ls' := [some (.inr (.inr x0)), some (.inr (.inr x1)), some (.inl x2), some (.inl (x3 + (1 : Int32)))]) ⟨rfl, ⟨rfl, ⟨rfl, ⟨rfl, trivial⟩⟩⟩⟩ (kk1 (x3 + (1 : Int32)) M5)
set_option maxRecDepth 20000 in
theorem L_X6_giveCalls_44 {l : Launch} {G : Gv} {lim : Nat × Nat} (M : Mem) (x0 : Nat) (x1 : Nat) (x2 : Int32) (x3 : Int32) (K : ((Mem)) → Option (Option Value × Mem)) (kk2_0 : ∀ r : Mem, SimR l G Y_X6_giveCalls lim (K r) 77 [some (.inr (.inr x0)), some (.inr (.inr x1)), some (.inl x2), none] [] r) : Sim l G Y_X6_giveCalls lim (f_X6_giveCalls_L44 M x0 x1 x2 x3) K 44 [some (.inr (.inr x0)), some (.inr (.inr x1)), some (.inl x2), some (.inl x3)] [] M :=
  s_iter (f := fun s : Int32 × Mem => f_X6_giveCalls_B44 s.2 x0 x1 x2 s.1) (hd := 44) (cl := fun s => [some (.inr (.inr x0)), some (.inr (.inr x1)), some (.inl x2), some (.inl s.1)]) (cm := fun s => s.2) (xp := fun _ => 77) (xl := fun r => [some (.inr (.inr x0)), some (.inr (.inr x1)), some (.inl x2), none]) (xm := fun r => r) (fun s K h1 h2 => B_X6_giveCalls_44 s.2 x0 x1 x2 s.1 K (fun a3 a_ => h1 (a3, a_)) (fun a_ => h2 a_)) 1048576 (x3, M) K kk2_0
def f_X6_giveCalls_B38 (M : Mem) (x0 : Nat) (x1 : Nat) (x2 : Int32) : Option ((Int32 × Mem) ⊕ ((Mem))) :=
  (if x2 < 0 then
    some (.inr M)
  else
    (f_X6_giveCalls_L44 M x0 x1 x2 (0 : Int32)).bind fun r2 =>
    some (.inl ((x2 + Int32.ofInt (-1)), r2)))
def f_X6_giveCalls_L38 (M : Mem) (x0 : Nat) (x1 : Nat) (x2 : Int32) : Option ((Mem)) := iter (fun s : Int32 × Mem => f_X6_giveCalls_B38 s.2 x0 x1 s.1) 1048576 (x2, M)
set_option maxRecDepth 20000 in
theorem B_X6_giveCalls_38 {l : Launch} {G : Gv} {lim : Nat × Nat} (M : Mem) (x0 : Nat) (x1 : Nat) (x2 : Int32) (K : (Int32 × Mem) ⊕ ((Mem)) → Option (Option Value × Mem)) (kk1 : ∀ (s2 : Int32) (s_ : Mem), SimR l G Y_X6_giveCalls lim (K (.inl (s2, s_))) 38 [some (.inr (.inr x0)), some (.inr (.inr x1)), some (.inl s2), none] [] s_) (kk2_0 : ∀ (s_ : Mem), SimR l G Y_X6_giveCalls lim (K (.inr s_)) 83 [some (.inr (.inr x0)), some (.inr (.inr x1)), none, none] [] s_) : Sim l G Y_X6_giveCalls lim (f_X6_giveCalls_B38 M x0 x1 x2) K 38 [some (.inr (.inr x0)), some (.inr (.inr x1)), some (.inl x2), none] [] M := by
  unfold f_X6_giveCalls_B38
  refine s_run (b := [(.iload_n 2, 1)]) 39 [some (.inr (.inr x0)), some (.inr (.inr x1)), some (.inl x2), none] [.inl x2] (by decide +kernel) rfl ?_
  refine s_if_lt (tgt := 83) (off := 44) (by decide +kernel) (by decide) (fun h1 => ?_) (fun h1 => ?_)
  · skip
    exact s_lsub (ls' := [some (.inr (.inr x0)), some (.inr (.inr x1)), none, none]) ⟨rfl, ⟨rfl, trivial⟩⟩ (kk2_0 M)
  · skip
    refine s_run (b := [(.iconst 0, 1), (.istore_n 3, 1)]) 44 [some (.inr (.inr x0)), some (.inr (.inr x1)), some (.inl x2), some (.inl (0 : Int32))] [] (by decide +kernel) rfl ?_
    refine s_lsub (ls' := [some (.inr (.inr x0)), some (.inr (.inr x1)), some (.inl x2), some (.inl (0 : Int32))]) ⟨rfl, ⟨rfl, ⟨rfl, ⟨rfl, trivial⟩⟩⟩⟩ ?_
    refine sim_bind (L_X6_giveCalls_44 M x0 x1 x2 (0 : Int32) _ (fun r2 => ?_))
    change Sim l G Y_X6_giveCalls lim _ _ 77 [some (.inr (.inr x0)), some (.inr (.inr x1)), some (.inl x2), none] [] r2
    refine s_run (b := [(.iinc 2 (-1), 3), (.goto (-42), 3)]) 38 [some (.inr (.inr x0)), some (.inr (.inr x1)), some (.inl (x2 + Int32.ofInt (-1))), none] [] (by decide +kernel) rfl ?_
    exact s_lsub (ls' := [some (.inr (.inr x0)), some (.inr (.inr x1)), some (.inl (x2 + Int32.ofInt (-1))), none]) ⟨rfl, ⟨rfl, ⟨rfl, trivial⟩⟩⟩ (kk1 (x2 + Int32.ofInt (-1)) r2)
set_option maxRecDepth 20000 in
theorem L_X6_giveCalls_38 {l : Launch} {G : Gv} {lim : Nat × Nat} (M : Mem) (x0 : Nat) (x1 : Nat) (x2 : Int32) (K : ((Mem)) → Option (Option Value × Mem)) (kk2_0 : ∀ r : Mem, SimR l G Y_X6_giveCalls lim (K r) 83 [some (.inr (.inr x0)), some (.inr (.inr x1)), none, none] [] r) : Sim l G Y_X6_giveCalls lim (f_X6_giveCalls_L38 M x0 x1 x2) K 38 [some (.inr (.inr x0)), some (.inr (.inr x1)), some (.inl x2), none] [] M :=
  s_iter (f := fun s : Int32 × Mem => f_X6_giveCalls_B38 s.2 x0 x1 s.1) (hd := 38) (cl := fun s => [some (.inr (.inr x0)), some (.inr (.inr x1)), some (.inl s.1), none]) (cm := fun s => s.2) (xp := fun _ => 83) (xl := fun r => [some (.inr (.inr x0)), some (.inr (.inr x1)), none, none]) (xm := fun r => r) (fun s K h1 h2 => B_X6_giveCalls_38 s.2 x0 x1 s.1 K (fun a2 a_ => h1 (a2, a_)) (fun a_ => h2 a_)) 1048576 (x2, M) K kk2_0
def f_X6_giveCalls_B97 (M : Mem) (x0 : Nat) (x1 : Nat) (x2 : Int32) (x3 : Int32) : Option ((Int32 × Int32 × Mem) ⊕ ((Mem))) :=
  (gI M 5 x1 1).bind fun v1 =>
  (if v1 ≤ x3 then
    some (.inr M)
  else
    (gR M 6 x0 2).bind fun v3 =>
    (ob M 6 x0).bind fun _ => (f_X6_firstTaker M x0 x1 x3 x2).bind fun v4 =>
    (sI M 0 v3 x3 v4).bind fun M5 =>
    (gR M5 6 x0 2).bind fun v6 =>
    (aI M5 0 v6 x3).bind fun v7 =>
    (if v7 = (8 : Int32) then
      some (.inl (x2, (x3 + (1 : Int32)), M5))
    else
      (gR M5 6 x0 2).bind fun v9 =>
      (aI M5 0 v9 x3).bind fun v10 =>
      some (.inl ((x2 ||| ((1 : Int32) <<< (v10 &&& 31))), (x3 + (1 : Int32)), M5))))
def f_X6_giveCalls_L97 (M : Mem) (x0 : Nat) (x1 : Nat) (x2 : Int32) (x3 : Int32) : Option ((Mem)) := iter (fun s : Int32 × Int32 × Mem => f_X6_giveCalls_B97 s.2.2 x0 x1 s.1 s.2.1) 1048576 (x2, x3, M)
set_option maxRecDepth 20000 in
theorem B_X6_giveCalls_97 {l : Launch} {G : Gv} {lim : Nat × Nat} (M : Mem) (x0 : Nat) (x1 : Nat) (x2 : Int32) (x3 : Int32) (K : (Int32 × Int32 × Mem) ⊕ ((Mem)) → Option (Option Value × Mem)) (kk1 : ∀ (s2 : Int32) (s3 : Int32) (s_ : Mem), SimR l G Y_X6_giveCalls lim (K (.inl (s2, s3, s_))) 97 [some (.inr (.inr x0)), some (.inr (.inr x1)), some (.inl s2), some (.inl s3)] [] s_) (kk2_0 : ∀ (s_ : Mem), SimR l G Y_X6_giveCalls lim (K (.inr s_)) 146 [none, none, none, none] [] s_) : Sim l G Y_X6_giveCalls lim (f_X6_giveCalls_B97 M x0 x1 x2 x3) K 97 [some (.inr (.inr x0)), some (.inr (.inr x1)), some (.inl x2), some (.inl x3)] [] M := by
  unfold f_X6_giveCalls_B97
  refine s_run (b := [(.iload_n 3, 1), (.aload_n 1, 1)]) 99 [some (.inr (.inr x0)), some (.inr (.inr x1)), some (.inl x2), some (.inl x3)] [.inr (.inr x1), .inl x3] (by decide +kernel) rfl ?_
  refine s_gI fl_6_78 rfl (by decide +kernel) (fun v1 => ?_)
  refine s_ic_ge (tgt := 146) (off := 44) (by decide +kernel) (by decide) (fun h2 => ?_) (fun h2 => ?_)
  · skip
    exact s_lsub (ls' := [none, none, none, none]) trivial (kk2_0 M)
  · skip
    refine s_run (b := [(.aload_n 0, 1)]) 106 [some (.inr (.inr x0)), some (.inr (.inr x1)), some (.inl x2), some (.inl x3)] [.inr (.inr x0)] (by decide +kernel) rfl ?_
    refine s_gR fl_6_9 rfl (by decide +kernel) (fun v3 => ?_)
    refine s_run (b := [(.iload_n 3, 1), (.aload_n 0, 1), (.aload_n 1, 1), (.iload_n 3, 1), (.iload_n 2, 1)]) 114 [some (.inr (.inr x0)), some (.inr (.inr x1)), some (.inl x2), some (.inl x3)] [.inl x2, .inl x3, .inr (.inr x1), .inr (.inr x0), .inl x3, .inr (.inr v3)] (by decide +kernel) rfl ?_
    refine s_cV (Z := Y_X6_firstTaker) (c := 6) (vs := [.inr (.inr x1), .inl x3, .inl x2]) (st := [.inl x3, .inr (.inr v3)]) (rO := fun z => some (.inl z)) (mO := fun _ => M) zk_X6_firstTaker zi_X6_firstTaker q1171 rfl ⟨by decide, by decide⟩ ⟨rfl, rfl⟩ rfl rfl (Nat.le_of_ble_eq_true rfl) (by decide +kernel) (fun z hz => c_X6_firstTaker hz) (fun v4 => ?_)
    change Sim l G Y_X6_giveCalls lim _ _ 117 [some (.inr (.inr x0)), some (.inr (.inr x1)), some (.inl x2), some (.inl x3)] [.inl v4, .inl x3, .inr (.inr v3)] M
    refine s_is (by decide +kernel) (fun M5 => ?_)
    refine s_run (b := [(.aload_n 0, 1)]) 119 [some (.inr (.inr x0)), some (.inr (.inr x1)), some (.inl x2), some (.inl x3)] [.inr (.inr x0)] (by decide +kernel) rfl ?_
    refine s_gR fl_6_9 rfl (by decide +kernel) (fun v6 => ?_)
    refine s_run (b := [(.iload_n 3, 1)]) 123 [some (.inr (.inr x0)), some (.inr (.inr x1)), some (.inl x2), some (.inl x3)] [.inl x3, .inr (.inr v6)] (by decide +kernel) rfl ?_
    refine s_ia (by decide +kernel) (fun v7 => ?_)
    refine s_run (b := [(.bipush 8, 2)]) 126 [some (.inr (.inr x0)), some (.inr (.inr x1)), some (.inl x2), some (.inl x3)] [.inl (8 : Int32), .inl v7] (by decide +kernel) rfl ?_
    refine s_ic_eq (tgt := 140) (off := 14) (by decide +kernel) (by decide) (fun h8 => ?_) (fun h8 => ?_)
    · skip
      refine s_run (b := [(.iinc 3 1, 3), (.goto (-46), 3)]) 97 [some (.inr (.inr x0)), some (.inr (.inr x1)), some (.inl x2), some (.inl (x3 + (1 : Int32)))] [] (by decide +kernel) rfl ?_
      exact s_lsub (ls' := [some (.inr (.inr x0)), some (.inr (.inr x1)), some (.inl x2), some (.inl (x3 + (1 : Int32)))]) ⟨rfl, ⟨rfl, ⟨rfl, ⟨rfl, trivial⟩⟩⟩⟩ (kk1 x2 (x3 + (1 : Int32)) M5)
    · skip
      refine s_run (b := [(.iload_n 2, 1), (.iconst 1, 1), (.aload_n 0, 1)]) 132 [some (.inr (.inr x0)), some (.inr (.inr x1)), some (.inl x2), some (.inl x3)] [.inr (.inr x0), .inl (1 : Int32), .inl x2] (by decide +kernel) rfl ?_
      refine s_gR fl_6_9 rfl (by decide +kernel) (fun v9 => ?_)
      refine s_run (b := [(.iload_n 3, 1)]) 136 [some (.inr (.inr x0)), some (.inr (.inr x1)), some (.inl x2), some (.inl x3)] [.inl x3, .inr (.inr v9), .inl (1 : Int32), .inl x2] (by decide +kernel) rfl ?_
      refine s_ia (by decide +kernel) (fun v10 => ?_)
      refine s_run (b := [(.ishl, 1), (.ior, 1), (.istore_n 2, 1), (.iinc 3 1, 3), (.goto (-46), 3)]) 97 [some (.inr (.inr x0)), some (.inr (.inr x1)), some (.inl (x2 ||| ((1 : Int32) <<< (v10 &&& 31)))), some (.inl (x3 + (1 : Int32)))] [] (by decide +kernel) rfl ?_
      exact s_lsub (ls' := [some (.inr (.inr x0)), some (.inr (.inr x1)), some (.inl (x2 ||| ((1 : Int32) <<< (v10 &&& 31)))), some (.inl (x3 + (1 : Int32)))]) ⟨rfl, ⟨rfl, ⟨rfl, ⟨rfl, trivial⟩⟩⟩⟩ (kk1 (x2 ||| ((1 : Int32) <<< (v10 &&& 31))) (x3 + (1 : Int32)) M5)
set_option maxRecDepth 20000 in
theorem L_X6_giveCalls_97 {l : Launch} {G : Gv} {lim : Nat × Nat} (M : Mem) (x0 : Nat) (x1 : Nat) (x2 : Int32) (x3 : Int32) (K : ((Mem)) → Option (Option Value × Mem)) (kk2_0 : ∀ r : Mem, SimR l G Y_X6_giveCalls lim (K r) 146 [none, none, none, none] [] r) : Sim l G Y_X6_giveCalls lim (f_X6_giveCalls_L97 M x0 x1 x2 x3) K 97 [some (.inr (.inr x0)), some (.inr (.inr x1)), some (.inl x2), some (.inl x3)] [] M :=
  s_iter (f := fun s : Int32 × Int32 × Mem => f_X6_giveCalls_B97 s.2.2 x0 x1 s.1 s.2.1) (hd := 97) (cl := fun s => [some (.inr (.inr x0)), some (.inr (.inr x1)), some (.inl s.1), some (.inl s.2.1)]) (cm := fun s => s.2.2) (xp := fun _ => 146) (xl := fun r => [none, none, none, none]) (xm := fun r => r) (fun s K h1 h2 => B_X6_giveCalls_97 s.2.2 x0 x1 s.1 s.2.1 K (fun a2 a3 a_ => h1 (a2, a3, a_)) (fun a_ => h2 a_)) 1048576 (x2, x3, M) K kk2_0
def f_X6_giveCalls (M : Mem) (x0 : Nat) (x1 : Nat) : Option (Mem) :=
  (f_X6_giveCalls_L2 M x0 x1 (0 : Int32)).bind fun r1 =>
  (gI r1 5 x1 1).bind fun v2 =>
  (f_X6_giveCalls_L38 r1 x0 x1 (v2 - (1 : Int32))).bind fun r3 =>
  (gR r3 6 x0 6).bind fun v4 =>
  (aI r3 0 v4 (0 : Int32)).bind fun v5 =>
  (pI r3 6 x0 0 v5).bind fun M6 =>
  (f_X6_giveCalls_L97 M6 x0 x1 (0 : Int32) (0 : Int32)).bind fun r7 =>
  some r7
set_option maxRecDepth 20000 in
theorem S_X6_giveCalls {l : Launch} {G : Gv} {lim : Nat × Nat} (M : Mem) (x0 : Nat) (x1 : Nat) : Sim l G Y_X6_giveCalls lim (f_X6_giveCalls M x0 x1) (fun z => some (none, z)) 0 [some (.inr (.inr x0)), some (.inr (.inr x1)), none, none] [] M := by
  unfold f_X6_giveCalls
  refine s_run (b := [(.iconst 0, 1), (.istore_n 2, 1)]) 2 [some (.inr (.inr x0)), some (.inr (.inr x1)), some (.inl (0 : Int32)), none] [] (by decide +kernel) rfl ?_
  refine s_lsub (ls' := [some (.inr (.inr x0)), some (.inr (.inr x1)), some (.inl (0 : Int32)), none]) ⟨rfl, ⟨rfl, ⟨rfl, trivial⟩⟩⟩ ?_
  refine sim_bind (L_X6_giveCalls_2 M x0 x1 (0 : Int32) _ (fun r1 => ?_))
  change Sim l G Y_X6_giveCalls lim _ _ 31 [some (.inr (.inr x0)), some (.inr (.inr x1)), none, none] [] r1
  refine s_run (b := [(.aload_n 1, 1)]) 32 [some (.inr (.inr x0)), some (.inr (.inr x1)), none, none] [.inr (.inr x1)] (by decide +kernel) rfl ?_
  refine s_gI fl_6_78 rfl (by decide +kernel) (fun v2 => ?_)
  refine s_run (b := [(.iconst 1, 1), (.isub, 1), (.istore_n 2, 1)]) 38 [some (.inr (.inr x0)), some (.inr (.inr x1)), some (.inl (v2 - (1 : Int32))), none] [] (by decide +kernel) rfl ?_
  refine s_lsub (ls' := [some (.inr (.inr x0)), some (.inr (.inr x1)), some (.inl (v2 - (1 : Int32))), none]) ⟨rfl, ⟨rfl, ⟨rfl, trivial⟩⟩⟩ ?_
  refine sim_bind (L_X6_giveCalls_38 r1 x0 x1 (v2 - (1 : Int32)) _ (fun r3 => ?_))
  change Sim l G Y_X6_giveCalls lim _ _ 83 [some (.inr (.inr x0)), some (.inr (.inr x1)), none, none] [] r3
  refine s_run (b := [(.aload_n 0, 1), (.aload_n 0, 1)]) 85 [some (.inr (.inr x0)), some (.inr (.inr x1)), none, none] [.inr (.inr x0), .inr (.inr x0)] (by decide +kernel) rfl ?_
  refine s_gR fl_6_32 rfl (by decide +kernel) (fun v4 => ?_)
  refine s_run (b := [(.iconst 0, 1)]) 89 [some (.inr (.inr x0)), some (.inr (.inr x1)), none, none] [.inl (0 : Int32), .inr (.inr v4), .inr (.inr x0)] (by decide +kernel) rfl ?_
  refine s_ia (by decide +kernel) (fun v5 => ?_)
  refine s_pI fl_6_68 (Or.inl rfl) rfl (by decide +kernel) (fun M6 => ?_)
  refine s_run (b := [(.iconst 0, 1), (.istore_n 2, 1), (.iconst 0, 1), (.istore_n 3, 1)]) 97 [some (.inr (.inr x0)), some (.inr (.inr x1)), some (.inl (0 : Int32)), some (.inl (0 : Int32))] [] (by decide +kernel) rfl ?_
  refine s_lsub (ls' := [some (.inr (.inr x0)), some (.inr (.inr x1)), some (.inl (0 : Int32)), some (.inl (0 : Int32))]) ⟨rfl, ⟨rfl, ⟨rfl, ⟨rfl, trivial⟩⟩⟩⟩ ?_
  refine sim_bind (L_X6_giveCalls_97 M6 x0 x1 (0 : Int32) (0 : Int32) _ (fun r7 => ?_))
  change Sim l G Y_X6_giveCalls lim _ _ 146 [none, none, none, none] [] r7
  exact s_vret (by decide +kernel) rfl
set_option maxRecDepth 20000 in
theorem c_X6_giveCalls {l : Launch} {G : Gv} {M : Mem} {x0 : Nat} {x1 : Nat} {z : Mem} (h : f_X6_giveCalls M x0 x1 = some z) : MetS l G Y_X6_giveCalls [.inr (.inr x0), .inr (.inr x1)] M none z :=
  met_of (ls0 := [some (.inr (.inr x0)), some (.inr (.inr x1)), none, none]) (by decide) rfl (lv_in (m := 2) rfl) (sl_le (Nat.le_of_ble_eq_true rfl)) (by rw [h]; rfl) (Or.inl ⟨rfl, rfl⟩) (S_X6_giveCalls M x0 x1)
def f_X11_given_J28 (M : Mem) (x0 : Nat) (x2 : Int32) (x3 : Nat)  : Option (Int32 × Mem) :=
  (gR M 11 x0 9).bind fun v1 =>
  (ob M 6 v1).bind fun _ => (f_X6_giveCalls M v1 x3).bind fun z2 =>
  (if x2 = (-1 : Int32) then
    (gR z2 11 x0 9).bind fun v4 =>
    (gI z2 6 v4 0).bind fun v5 =>
    some (v5, z2)
  else
    (gR z2 11 x0 9).bind fun v6 =>
    (gR z2 6 v6 2).bind fun v7 =>
    (aI z2 0 v7 x2).bind fun v8 =>
    some (v8, z2))
set_option maxRecDepth 20000 in
theorem J_X11_given_28 {l : Launch} {G : Gv} {lim : Nat × Nat} (M : Mem) (x0 : Nat) (x2 : Int32) (x3 : Nat)   : Sim l G Y_X11_given lim (f_X11_given_J28 M x0 x2 x3) (fun z => some (some (.int z.1), z.2)) 28 [some (.inr (.inr x0)), none, some (.inl x2), some (.inr (.inr x3))] [] M := by
  unfold f_X11_given_J28
  refine s_run (b := [(.aload_n 0, 1)]) 29 [some (.inr (.inr x0)), none, some (.inl x2), some (.inr (.inr x3))] [.inr (.inr x0)] (by decide +kernel) rfl ?_
  refine s_gR fl_11_69 rfl (by decide +kernel) (fun v1 => ?_)
  refine s_run (b := [(.aload_n 3, 1)]) 33 [some (.inr (.inr x0)), none, some (.inl x2), some (.inr (.inr x3))] [.inr (.inr x3), .inr (.inr v1)] (by decide +kernel) rfl ?_
  refine s_cV (Z := Y_X6_giveCalls) (c := 6) (vs := [.inr (.inr x3)]) (st := []) (rO := fun _ => none) (mO := fun z => z) zk_X6_giveCalls zi_X6_giveCalls q1155 rfl ⟨by decide, by decide⟩ ⟨rfl, rfl⟩ rfl rfl (Nat.le_of_ble_eq_true rfl) (by decide +kernel) (fun z hz => c_X6_giveCalls hz) (fun z2 => ?_)
  change Sim l G Y_X11_given lim _ _ 36 [some (.inr (.inr x0)), none, some (.inl x2), some (.inr (.inr x3))] [] z2
  refine s_run (b := [(.iload_n 2, 1), (.iconst (-1), 1)]) 38 [some (.inr (.inr x0)), none, some (.inl x2), some (.inr (.inr x3))] [.inl (-1 : Int32), .inl x2] (by decide +kernel) rfl ?_
  refine s_ic_ne (tgt := 51) (off := 13) (by decide +kernel) (by decide) (fun h3 => ?_) (fun h3 => ?_)
  · skip
    refine s_run (b := [(.aload_n 0, 1)]) 42 [some (.inr (.inr x0)), none, some (.inl x2), some (.inr (.inr x3))] [.inr (.inr x0)] (by decide +kernel) rfl ?_
    refine s_gR fl_11_69 rfl (by decide +kernel) (fun v4 => ?_)
    refine s_gI fl_11_224 rfl (by decide +kernel) (fun v5 => ?_)
    refine s_run (b := [(.goto 12, 3)]) 60 [some (.inr (.inr x0)), none, some (.inl x2), some (.inr (.inr x3))] [.inl v5] (by decide +kernel) rfl ?_
    exact s_iret (by decide +kernel) rfl
  · skip
    refine s_run (b := [(.aload_n 0, 1)]) 52 [some (.inr (.inr x0)), none, some (.inl x2), some (.inr (.inr x3))] [.inr (.inr x0)] (by decide +kernel) rfl ?_
    refine s_gR fl_11_69 rfl (by decide +kernel) (fun v6 => ?_)
    refine s_gR fl_11_274 rfl (by decide +kernel) (fun v7 => ?_)
    refine s_run (b := [(.iload_n 2, 1)]) 59 [some (.inr (.inr x0)), none, some (.inl x2), some (.inr (.inr x3))] [.inl x2, .inr (.inr v7)] (by decide +kernel) rfl ?_
    refine s_ia (by decide +kernel) (fun v8 => ?_)
    exact s_iret (by decide +kernel) rfl
def f_X11_given (M : Mem) (x0 : Nat) (x1 : Int32) (x2 : Int32) : Option (Int32 × Mem) :=
  (gR M 11 x0 0).bind fun v1 =>
  (ob M 9 v1).bind fun _ => (f_X9_officeAt M v1 x1).bind fun v2 =>
  (if v2 = 0 then
    some ((-1 : Int32), M)
  else
    (if x2 = (-1 : Int32) then
      f_X11_given_J28 M x0 x2 v2 
    else
      (ob M 5 v2).bind fun _ => (f_X5_hasCall M v2 x2).bind fun v5 =>
      (if v5 = 0 then
        some ((-1 : Int32), M)
      else
        f_X11_given_J28 M x0 x2 v2 )))
set_option maxRecDepth 20000 in
theorem S_X11_given {l : Launch} {G : Gv} {lim : Nat × Nat} (M : Mem) (x0 : Nat) (x1 : Int32) (x2 : Int32) : Sim l G Y_X11_given lim (f_X11_given M x0 x1 x2) (fun z => some (some (.int z.1), z.2)) 0 [some (.inr (.inr x0)), some (.inl x1), some (.inl x2), none] [] M := by
  unfold f_X11_given
  refine s_run (b := [(.aload_n 0, 1)]) 1 [some (.inr (.inr x0)), some (.inl x1), some (.inl x2), none] [.inr (.inr x0)] (by decide +kernel) rfl ?_
  refine s_gR fl_11_10 rfl (by decide +kernel) (fun v1 => ?_)
  refine s_run (b := [(.iload_n 1, 1)]) 5 [some (.inr (.inr x0)), some (.inl x1), some (.inl x2), none] [.inl x1, .inr (.inr v1)] (by decide +kernel) rfl ?_
  refine s_cV (Z := Y_X9_officeAt) (c := 9) (vs := [.inl x1]) (st := []) (rO := fun z => some (.inr (.inr z))) (mO := fun _ => M) zk_X9_officeAt zi_X9_officeAt q716 rfl ⟨by decide, by decide⟩ ⟨rfl, rfl⟩ rfl rfl (Nat.le_of_ble_eq_true rfl) (by decide +kernel) (fun z hz => c_X9_officeAt hz) (fun v2 => ?_)
  change Sim l G Y_X11_given lim _ _ 8 [some (.inr (.inr x0)), some (.inl x1), some (.inl x2), none] [.inr (.inr v2)] M
  refine s_run (b := [(.astore_n 3, 1), (.aload_n 3, 1)]) 10 [some (.inr (.inr x0)), some (.inl x1), some (.inl x2), some (.inr (.inr v2))] [.inr (.inr v2)] (by decide +kernel) rfl ?_
  refine s_ifnull (tgt := 26) (off := 16) (by decide +kernel) (by decide) (fun h3 => ?_) (fun h3 => ?_)
  · skip
    refine s_run (b := [(.iconst (-1), 1)]) 27 [some (.inr (.inr x0)), some (.inl x1), some (.inl x2), some (.inr (.inr v2))] [.inl (-1 : Int32)] (by decide +kernel) rfl ?_
    exact s_iret (by decide +kernel) rfl
  · skip
    refine s_run (b := [(.iload_n 2, 1), (.iconst (-1), 1)]) 15 [some (.inr (.inr x0)), some (.inl x1), some (.inl x2), some (.inr (.inr v2))] [.inl (-1 : Int32), .inl x2] (by decide +kernel) rfl ?_
    refine s_ic_eq (tgt := 28) (off := 13) (by decide +kernel) (by decide) (fun h4 => ?_) (fun h4 => ?_)
    · skip
      exact s_lsub (ls' := [some (.inr (.inr x0)), none, some (.inl x2), some (.inr (.inr v2))]) ⟨rfl, ⟨rfl, ⟨rfl, trivial⟩⟩⟩ (J_X11_given_28 M x0 x2 v2 )
    · skip
      refine s_run (b := [(.aload_n 3, 1), (.iload_n 2, 1)]) 20 [some (.inr (.inr x0)), some (.inl x1), some (.inl x2), some (.inr (.inr v2))] [.inl x2, .inr (.inr v2)] (by decide +kernel) rfl ?_
      refine s_cV (Z := Y_X5_hasCall) (c := 5) (vs := [.inl x2]) (st := []) (rO := fun z => some (.inl z)) (mO := fun _ => M) zk_X5_hasCall zi_X5_hasCall q870 rfl ⟨by decide, by decide⟩ ⟨rfl, rfl⟩ rfl rfl (Nat.le_of_ble_eq_true rfl) (by decide +kernel) (fun z hz => c_X5_hasCall hz) (fun v5 => ?_)
      change Sim l G Y_X11_given lim _ _ 23 [some (.inr (.inr x0)), some (.inl x1), some (.inl x2), some (.inr (.inr v2))] [.inl v5] M
      refine s_if_ne (tgt := 28) (off := 5) (by decide +kernel) (by decide) (fun h6 => ?_) (fun h6 => ?_)
      · skip
        refine s_run (b := [(.iconst (-1), 1)]) 27 [some (.inr (.inr x0)), some (.inl x1), some (.inl x2), some (.inr (.inr v2))] [.inl (-1 : Int32)] (by decide +kernel) rfl ?_
        exact s_iret (by decide +kernel) rfl
      · skip
        exact s_lsub (ls' := [some (.inr (.inr x0)), none, some (.inl x2), some (.inr (.inr v2))]) ⟨rfl, ⟨rfl, ⟨rfl, trivial⟩⟩⟩ (J_X11_given_28 M x0 x2 v2 )
set_option maxRecDepth 20000 in
theorem c_X11_given {l : Launch} {G : Gv} {M : Mem} {x0 : Nat} {x1 : Int32} {x2 : Int32} {z : Int32 × Mem} (h : f_X11_given M x0 x1 x2 = some z) : MetS l G Y_X11_given [.inr (.inr x0), .inl x1, .inl x2] M (some (.int z.1)) z.2 :=
  met_of (ls0 := [some (.inr (.inr x0)), some (.inl x1), some (.inl x2), none]) (by decide) rfl (lv_in (m := 1) rfl) (sl_le (Nat.le_of_ble_eq_true rfl)) (by rw [h]; rfl) (Or.inl ⟨rfl, rfl⟩) (S_X11_given M x0 x1 x2)
def f_X11_image (M : Mem) (x0 : Nat) (x1 : Int32) : Option (Int32 × Mem) :=
  (if x1 < 0 then
    some ((0 : Int32), M)
  else
    (if x1 < (3 : Int32) then
      (gR M 11 x0 1).bind fun v3 =>
      (aR M 4 v3 x1).bind fun v4 =>
      (gR M 11 x0 0).bind fun v5 =>
      (ob M 9 v4).bind fun _ => (f_X9_copyFrom M v4 v5).bind fun z6 =>
      (gR z6 11 x0 2).bind fun v7 =>
      (sI z6 2 v7 x1 (1 : Int32)).bind fun M8 =>
      some ((1 : Int32), M8)
    else
      some ((0 : Int32), M)))
set_option maxRecDepth 20000 in
theorem S_X11_image {l : Launch} {G : Gv} {lim : Nat × Nat} (M : Mem) (x0 : Nat) (x1 : Int32) : Sim l G Y_X11_image lim (f_X11_image M x0 x1) (fun z => some (some (.int z.1), z.2)) 0 [some (.inr (.inr x0)), some (.inl x1)] [] M := by
  unfold f_X11_image
  refine s_run (b := [(.iload_n 1, 1)]) 1 [some (.inr (.inr x0)), some (.inl x1)] [.inl x1] (by decide +kernel) rfl ?_
  refine s_if_lt (tgt := 9) (off := 8) (by decide +kernel) (by decide) (fun h1 => ?_) (fun h1 => ?_)
  · skip
    refine s_run (b := [(.iconst 0, 1)]) 10 [some (.inr (.inr x0)), some (.inl x1)] [.inl (0 : Int32)] (by decide +kernel) rfl ?_
    exact s_bret (Or.inl rfl) (by decide +kernel) rfl
  · skip
    refine s_run (b := [(.iload_n 1, 1), (.iconst 3, 1)]) 6 [some (.inr (.inr x0)), some (.inl x1)] [.inl (3 : Int32), .inl x1] (by decide +kernel) rfl ?_
    refine s_ic_lt (tgt := 11) (off := 5) (by decide +kernel) (by decide) (fun h2 => ?_) (fun h2 => ?_)
    · skip
      refine s_run (b := [(.aload_n 0, 1)]) 12 [some (.inr (.inr x0)), some (.inl x1)] [.inr (.inr x0)] (by decide +kernel) rfl ?_
      refine s_gR fl_11_16 rfl (by decide +kernel) (fun v3 => ?_)
      refine s_run (b := [(.iload_n 1, 1)]) 16 [some (.inr (.inr x0)), some (.inl x1)] [.inl x1, .inr (.inr v3)] (by decide +kernel) rfl ?_
      refine s_aa ⟨by decide, by decide⟩ rfl (by decide +kernel) (fun v4 => ?_)
      refine s_run (b := [(.aload_n 0, 1)]) 18 [some (.inr (.inr x0)), some (.inl x1)] [.inr (.inr x0), .inr (.inr v4)] (by decide +kernel) rfl ?_
      refine s_gR fl_11_10 rfl (by decide +kernel) (fun v5 => ?_)
      refine s_cV (Z := Y_X9_copyFrom) (c := 9) (vs := [.inr (.inr v5)]) (st := []) (rO := fun _ => none) (mO := fun z => z) zk_X9_copyFrom zi_X9_copyFrom q1302 rfl ⟨by decide, by decide⟩ ⟨rfl, rfl⟩ rfl rfl (Nat.le_of_ble_eq_true rfl) (by decide +kernel) (fun z hz => c_X9_copyFrom hz) (fun z6 => ?_)
      change Sim l G Y_X11_image lim _ _ 24 [some (.inr (.inr x0)), some (.inl x1)] [] z6
      refine s_run (b := [(.aload_n 0, 1)]) 25 [some (.inr (.inr x0)), some (.inl x1)] [.inr (.inr x0)] (by decide +kernel) rfl ?_
      refine s_gR fl_11_20 rfl (by decide +kernel) (fun v7 => ?_)
      refine s_run (b := [(.iload_n 1, 1), (.iconst 1, 1)]) 30 [some (.inr (.inr x0)), some (.inl x1)] [.inl (1 : Int32), .inl x1, .inr (.inr v7)] (by decide +kernel) rfl ?_
      refine s_bs (by decide) (by decide +kernel) (fun M8 => ?_)
      refine s_run (b := [(.iconst 1, 1)]) 32 [some (.inr (.inr x0)), some (.inl x1)] [.inl (1 : Int32)] (by decide +kernel) rfl ?_
      exact s_bret (Or.inr rfl) (by decide +kernel) rfl
    · skip
      refine s_run (b := [(.iconst 0, 1)]) 10 [some (.inr (.inr x0)), some (.inl x1)] [.inl (0 : Int32)] (by decide +kernel) rfl ?_
      exact s_bret (Or.inl rfl) (by decide +kernel) rfl
set_option maxRecDepth 20000 in
theorem c_X11_image {l : Launch} {G : Gv} {M : Mem} {x0 : Nat} {x1 : Int32} {z : Int32 × Mem} (h : f_X11_image M x0 x1 = some z) : MetS l G Y_X11_image [.inr (.inr x0), .inl x1] M (some (.int z.1)) z.2 :=
  met_of (ls0 := [some (.inr (.inr x0)), some (.inl x1)]) (by decide) rfl (lv_in (m := 0) rfl) (sl_le (Nat.le_of_ble_eq_true rfl)) (by rw [h]; rfl) (Or.inl ⟨rfl, rfl⟩) (S_X11_image M x0 x1)
def f_X3_init (M : Mem) (x0 : Nat) : Option (Mem) :=
  (ob M 3 x0).bind fun _ =>
  (pI M 3 x0 0 (-1 : Int32)).bind fun M1 =>
  some M1
set_option maxRecDepth 20000 in
theorem S_X3_init {l : Launch} {G : Gv} {lim : Nat × Nat} (M : Mem) (x0 : Nat) : Sim l G Y_X3_init lim (f_X3_init M x0) (fun z => some (none, z)) 0 [some (.inr (.inr x0))] [] M := by
  unfold f_X3_init
  refine s_run (b := [(.aload_n 0, 1)]) 1 [some (.inr (.inr x0))] [.inr (.inr x0)] (by decide +kernel) rfl ?_
  refine s_objI q267 q27 q28 ⟨Nat.le_of_ble_eq_true rfl, Nat.le_of_ble_eq_true rfl⟩ (by decide +kernel) ?_
  refine s_run (b := [(.aload_n 0, 1), (.iconst (-1), 1)]) 6 [some (.inr (.inr x0))] [.inl (-1 : Int32), .inr (.inr x0)] (by decide +kernel) rfl ?_
  refine s_pI fl_3_9 (Or.inl rfl) rfl (by decide +kernel) (fun M1 => ?_)
  exact s_vret (by decide +kernel) rfl
set_option maxRecDepth 20000 in
theorem c_X3_init {l : Launch} {G : Gv} {M : Mem} {x0 : Nat} {z : Mem} (h : f_X3_init M x0 = some z) : MetS l G Y_X3_init [.inr (.inr x0)] M none z :=
  met_of (ls0 := [some (.inr (.inr x0))]) (by decide) rfl (lv_in (m := 0) rfl) (sl_le (Nat.le_of_ble_eq_true rfl)) (by rw [h]; rfl) (Or.inl ⟨rfl, rfl⟩) (S_X3_init M x0)
def f_X0_init_main (lim : Nat × Nat) (M : Mem) (x0 : Nat) : Option (Mem) :=
  (ob M 0 x0).bind fun _ =>
  (pL M 0 x0 1 (1 : Int64)).bind fun M1 =>
  (newS lim M1 (.inr (0, 8))).bind fun z2 =>
  (pR z2.2 0 x0 2 z2.1).bind fun M3 =>
  (newS lim M3 (.inl 3)).bind fun z4 =>
  (ob z4.2 3 z4.1).bind fun _ => (rmS lim z4.2 0 0).bind fun _ => (f_X3_init z4.2 z4.1).bind fun M5 =>
  (pR M5 0 x0 3 z4.1).bind fun M6 =>
  some M6
set_option maxRecDepth 20000 in
theorem S_X0_init {l : Launch} {G : Gv} {lim : Nat × Nat} (M : Mem) (x0 : Nat) : Sim l G Y_X0_init lim (f_X0_init_main lim M x0) (fun z => some (none, z)) 0 [some (.inr (.inr x0))] [] M := by
  unfold f_X0_init_main
  refine s_run (b := [(.aload_n 0, 1)]) 1 [some (.inr (.inr x0))] [.inr (.inr x0)] (by decide +kernel) rfl ?_
  refine s_objI q349 q27 q28 ⟨Nat.le_of_ble_eq_true rfl, Nat.le_of_ble_eq_true rfl⟩ (by decide +kernel) ?_
  refine s_run (b := [(.aload_n 0, 1), (.lconst 1, 1)]) 6 [some (.inr (.inr x0))] [.inr (.inl (1 : Int64)), .inr (.inr x0)] (by decide +kernel) rfl ?_
  refine s_pL fl_0_9 (Or.inl rfl) rfl (by decide +kernel) (fun M1 => ?_)
  refine s_run (b := [(.aload_n 0, 1), (.bipush 8, 2)]) 12 [some (.inr (.inr x0))] [.inl (8 : Int32), .inr (.inr x0)] (by decide +kernel) rfl ?_
  refine s_newaZ .int (t := 0) (by decide) rfl q131 (by decide) (by decide +kernel) (fun z2 => ?_)
  refine s_pR fl_0_15 (Or.inr ⟨_, rfl⟩) (Or.inr ⟨rfl, _, _, rfl⟩) rfl (by decide +kernel) (fun M3 => ?_)
  refine s_run (b := [(.aload_n 0, 1)]) 18 [some (.inr (.inr x0))] [.inr (.inr x0)] (by decide +kernel) rfl ?_
  refine s_newZ (c := 3) rfl q350 q263 q7 (by decide +kernel) (fun z4 => ?_)
  refine s_run (b := [(.dup, 1)]) 22 [some (.inr (.inr x0))] [.inr (.inr z4.1), .inr (.inr z4.1), .inr (.inr x0)] (by decide +kernel) rfl ?_
  refine s_cIN (Z := Y_X3_init) (vs := []) (st := [.inr (.inr z4.1), .inr (.inr x0)]) zk_X3_init ⟨rfl, q265, rfl⟩ (List.mem_of_getElem? (i := 9) rfl) ⟨by decide, by decide⟩ rfl rfl (Nat.le_of_ble_eq_true rfl) (by decide +kernel) (fun z hz => c_X3_init hz) (fun M5 => ?_)
  refine s_pR fl_0_22 (Or.inl ⟨_, rfl⟩) (Or.inr ⟨rfl, _, _, rfl⟩) rfl (by decide +kernel) (fun M6 => ?_)
  exact s_vret (by decide +kernel) rfl
def f_X0_init (M : Mem) (x0 : Nat) : Option Mem := (f_X0_init_main (M.2.2.2.length + 2, ssum M.2.2.2 + 11) M x0).bind (fun z => rtS (M.2.2.2.length + 2, ssum M.2.2.2 + 11) z)
set_option maxRecDepth 20000 in
theorem c_X0_init {l : Launch} {G : Gv} {M : Mem} {x0 : Nat} {z : Mem} (h : f_X0_init M x0 = some z) : MetS l G Y_X0_init [.inr (.inr x0)] M none z := by
  obtain ⟨z1, h1, h2⟩ := Option.bind_eq_some_iff.mp h
  obtain ⟨h3, h2⟩ := ifs h2; cases h2
  exact met_of (ls0 := [some (.inr (.inr x0))]) (by decide) rfl (lv_in (m := 0) rfl) (sl_le (Nat.le_of_ble_eq_true rfl)) (show (f_X0_init_main (M.2.2.2.length + 2, ssum M.2.2.2 + 11) M x0).bind _ = _ by rw [h1]; rfl) (Or.inr h3) (S_X0_init M x0)
def f_X10_init_main (lim : Nat × Nat) (M : Mem) (x0 : Nat) : Option (Mem) :=
  (ob M 10 x0).bind fun _ =>
  (newS lim M (.inr (0, 8))).bind fun z1 =>
  (pR z1.2 10 x0 1 z1.1).bind fun M2 =>
  (newS lim M2 (.inr (0, 8))).bind fun z3 =>
  (pR z3.2 10 x0 2 z3.1).bind fun M4 =>
  (newS lim M4 (.inr (0, 4))).bind fun z5 =>
  (pR z5.2 10 x0 3 z5.1).bind fun M6 =>
  (newS lim M6 (.inr (0, 176))).bind fun z7 =>
  (pR z7.2 10 x0 5 z7.1).bind fun M8 =>
  some M8
set_option maxRecDepth 20000 in
theorem S_X10_init {l : Launch} {G : Gv} {lim : Nat × Nat} (M : Mem) (x0 : Nat) : Sim l G Y_X10_init lim (f_X10_init_main lim M x0) (fun z => some (none, z)) 0 [some (.inr (.inr x0))] [] M := by
  unfold f_X10_init_main
  refine s_run (b := [(.aload_n 0, 1)]) 1 [some (.inr (.inr x0))] [.inr (.inr x0)] (by decide +kernel) rfl ?_
  refine s_objI q373 q27 q28 ⟨Nat.le_of_ble_eq_true rfl, Nat.le_of_ble_eq_true rfl⟩ (by decide +kernel) ?_
  refine s_run (b := [(.aload_n 0, 1), (.bipush 8, 2)]) 7 [some (.inr (.inr x0))] [.inl (8 : Int32), .inr (.inr x0)] (by decide +kernel) rfl ?_
  refine s_newaZ .int (t := 0) (by decide) rfl q131 (by decide) (by decide +kernel) (fun z1 => ?_)
  refine s_pR fl_10_11 (Or.inr ⟨_, rfl⟩) (Or.inr ⟨rfl, _, _, rfl⟩) rfl (by decide +kernel) (fun M2 => ?_)
  refine s_run (b := [(.aload_n 0, 1), (.bipush 8, 2)]) 15 [some (.inr (.inr x0))] [.inl (8 : Int32), .inr (.inr x0)] (by decide +kernel) rfl ?_
  refine s_newaZ .int (t := 0) (by decide) rfl q131 (by decide) (by decide +kernel) (fun z3 => ?_)
  refine s_pR fl_10_15 (Or.inr ⟨_, rfl⟩) (Or.inr ⟨rfl, _, _, rfl⟩) rfl (by decide +kernel) (fun M4 => ?_)
  refine s_run (b := [(.aload_n 0, 1), (.iconst 4, 1)]) 22 [some (.inr (.inr x0))] [.inl (4 : Int32), .inr (.inr x0)] (by decide +kernel) rfl ?_
  refine s_newaZ .int (t := 0) (by decide) rfl q131 (by decide) (by decide +kernel) (fun z5 => ?_)
  refine s_pR fl_10_18 (Or.inr ⟨_, rfl⟩) (Or.inr ⟨rfl, _, _, rfl⟩) rfl (by decide +kernel) (fun M6 => ?_)
  refine s_run (b := [(.aload_n 0, 1), (.sipush 176, 3)]) 31 [some (.inr (.inr x0))] [.inl (176 : Int32), .inr (.inr x0)] (by decide +kernel) rfl ?_
  refine s_newaZ .int (t := 0) (by decide) rfl q131 (by decide) (by decide +kernel) (fun z7 => ?_)
  refine s_pR fl_10_21 (Or.inr ⟨_, rfl⟩) (Or.inr ⟨rfl, _, _, rfl⟩) rfl (by decide +kernel) (fun M8 => ?_)
  exact s_vret (by decide +kernel) rfl
def f_X10_init (M : Mem) (x0 : Nat) : Option Mem := (f_X10_init_main (M.2.2.2.length + 4, ssum M.2.2.2 + 196) M x0).bind (fun z => rtS (M.2.2.2.length + 4, ssum M.2.2.2 + 196) z)
set_option maxRecDepth 20000 in
theorem c_X10_init {l : Launch} {G : Gv} {M : Mem} {x0 : Nat} {z : Mem} (h : f_X10_init M x0 = some z) : MetS l G Y_X10_init [.inr (.inr x0)] M none z := by
  obtain ⟨z1, h1, h2⟩ := Option.bind_eq_some_iff.mp h
  obtain ⟨h3, h2⟩ := ifs h2; cases h2
  exact met_of (ls0 := [some (.inr (.inr x0))]) (by decide) rfl (lv_in (m := 0) rfl) (sl_le (Nat.le_of_ble_eq_true rfl)) (show (f_X10_init_main (M.2.2.2.length + 4, ssum M.2.2.2 + 196) M x0).bind _ = _ by rw [h1]; rfl) (Or.inr h3) (S_X10_init M x0)
def f_X5_clear (M : Mem) (x0 : Nat) : Option (Mem) :=
  (pI M 5 x0 0 (0 : Int32)).bind fun M1 =>
  (pI M1 5 x0 1 (0 : Int32)).bind fun M2 =>
  (pI M2 5 x0 2 (10 : Int32)).bind fun M3 =>
  (pI M3 5 x0 3 (0 : Int32)).bind fun M4 =>
  (pI M4 5 x0 4 (1 : Int32)).bind fun M5 =>
  some M5
set_option maxRecDepth 20000 in
theorem S_X5_clear {l : Launch} {G : Gv} {lim : Nat × Nat} (M : Mem) (x0 : Nat) : Sim l G Y_X5_clear lim (f_X5_clear M x0) (fun z => some (none, z)) 0 [some (.inr (.inr x0))] [] M := by
  unfold f_X5_clear
  refine s_run (b := [(.aload_n 0, 1), (.iconst 0, 1)]) 2 [some (.inr (.inr x0))] [.inl (0 : Int32), .inr (.inr x0)] (by decide +kernel) rfl ?_
  refine s_pI fl_5_45 (Or.inl rfl) rfl (by decide +kernel) (fun M1 => ?_)
  refine s_run (b := [(.aload_n 0, 1), (.iconst 0, 1)]) 7 [some (.inr (.inr x0))] [.inl (0 : Int32), .inr (.inr x0)] (by decide +kernel) rfl ?_
  refine s_pI fl_5_49 (Or.inl rfl) rfl (by decide +kernel) (fun M2 => ?_)
  refine s_run (b := [(.aload_n 0, 1), (.bipush 10, 2)]) 13 [some (.inr (.inr x0))] [.inl (10 : Int32), .inr (.inr x0)] (by decide +kernel) rfl ?_
  refine s_pI fl_5_52 (Or.inl rfl) rfl (by decide +kernel) (fun M3 => ?_)
  refine s_run (b := [(.aload_n 0, 1), (.iconst 0, 1)]) 18 [some (.inr (.inr x0))] [.inl (0 : Int32), .inr (.inr x0)] (by decide +kernel) rfl ?_
  refine s_pI fl_5_55 (Or.inl rfl) rfl (by decide +kernel) (fun M4 => ?_)
  refine s_run (b := [(.aload_n 0, 1), (.iconst 1, 1)]) 23 [some (.inr (.inr x0))] [.inl (1 : Int32), .inr (.inr x0)] (by decide +kernel) rfl ?_
  refine s_pI fl_5_58 (Or.inl rfl) rfl (by decide +kernel) (fun M5 => ?_)
  exact s_vret (by decide +kernel) rfl
set_option maxRecDepth 20000 in
theorem c_X5_clear {l : Launch} {G : Gv} {M : Mem} {x0 : Nat} {z : Mem} (h : f_X5_clear M x0 = some z) : MetS l G Y_X5_clear [.inr (.inr x0)] M none z :=
  met_of (ls0 := [some (.inr (.inr x0))]) (by decide) rfl (lv_in (m := 0) rfl) (sl_le (Nat.le_of_ble_eq_true rfl)) (by rw [h]; rfl) (Or.inl ⟨rfl, rfl⟩) (S_X5_clear M x0)
def f_X5_init_main (lim : Nat × Nat) (M : Mem) (x0 : Nat) : Option (Mem) :=
  (ob M 5 x0).bind fun _ =>
  (newS lim M (.inr (0, 8))).bind fun z1 =>
  (pR z1.2 5 x0 5 z1.1).bind fun M2 =>
  (newS lim M2 (.inr (0, 8))).bind fun z3 =>
  (pR z3.2 5 x0 6 z3.1).bind fun M4 =>
  (newS lim M4 (.inr (0, 8))).bind fun z5 =>
  (pR z5.2 5 x0 7 z5.1).bind fun M6 =>
  (newS lim M6 (.inr (0, 8))).bind fun z7 =>
  (pR z7.2 5 x0 8 z7.1).bind fun M8 =>
  (newS lim M8 (.inr (0, 8))).bind fun z9 =>
  (pR z9.2 5 x0 9 z9.1).bind fun M10 =>
  (newS lim M10 (.inr (0, 10))).bind fun z11 =>
  (pR z11.2 5 x0 10 z11.1).bind fun M12 =>
  (newS lim M12 (.inr (0, 10))).bind fun z13 =>
  (pR z13.2 5 x0 11 z13.1).bind fun M14 =>
  (newS lim M14 (.inr (0, 10))).bind fun z15 =>
  (pR z15.2 5 x0 12 z15.1).bind fun M16 =>
  (newS lim M16 (.inr (0, 8))).bind fun z17 =>
  (pR z17.2 5 x0 13 z17.1).bind fun M18 =>
  (newS lim M18 (.inr (0, 64))).bind fun z19 =>
  (pR z19.2 5 x0 14 z19.1).bind fun M20 =>
  (ob M20 5 x0).bind fun _ => (f_X5_clear M20 x0).bind fun z21 =>
  some z21
set_option maxRecDepth 20000 in
theorem S_X5_init {l : Launch} {G : Gv} {lim : Nat × Nat} (M : Mem) (x0 : Nat) : Sim l G Y_X5_init lim (f_X5_init_main lim M x0) (fun z => some (none, z)) 0 [some (.inr (.inr x0))] [] M := by
  unfold f_X5_init_main
  refine s_run (b := [(.aload_n 0, 1)]) 1 [some (.inr (.inr x0))] [.inr (.inr x0)] (by decide +kernel) rfl ?_
  refine s_objI q45 q27 q28 ⟨Nat.le_of_ble_eq_true rfl, Nat.le_of_ble_eq_true rfl⟩ (by decide +kernel) ?_
  refine s_run (b := [(.aload_n 0, 1), (.bipush 8, 2)]) 7 [some (.inr (.inr x0))] [.inl (8 : Int32), .inr (.inr x0)] (by decide +kernel) rfl ?_
  refine s_newaZ .int (t := 0) (by decide) rfl q131 (by decide) (by decide +kernel) (fun z1 => ?_)
  refine s_pR fl_5_9 (Or.inr ⟨_, rfl⟩) (Or.inr ⟨rfl, _, _, rfl⟩) rfl (by decide +kernel) (fun M2 => ?_)
  refine s_run (b := [(.aload_n 0, 1), (.bipush 8, 2)]) 15 [some (.inr (.inr x0))] [.inl (8 : Int32), .inr (.inr x0)] (by decide +kernel) rfl ?_
  refine s_newaZ .int (t := 0) (by decide) rfl q131 (by decide) (by decide +kernel) (fun z3 => ?_)
  refine s_pR fl_5_15 (Or.inr ⟨_, rfl⟩) (Or.inr ⟨rfl, _, _, rfl⟩) rfl (by decide +kernel) (fun M4 => ?_)
  refine s_run (b := [(.aload_n 0, 1), (.bipush 8, 2)]) 23 [some (.inr (.inr x0))] [.inl (8 : Int32), .inr (.inr x0)] (by decide +kernel) rfl ?_
  refine s_newaZ .int (t := 0) (by decide) rfl q131 (by decide) (by decide +kernel) (fun z5 => ?_)
  refine s_pR fl_5_18 (Or.inr ⟨_, rfl⟩) (Or.inr ⟨rfl, _, _, rfl⟩) rfl (by decide +kernel) (fun M6 => ?_)
  refine s_run (b := [(.aload_n 0, 1), (.bipush 8, 2)]) 31 [some (.inr (.inr x0))] [.inl (8 : Int32), .inr (.inr x0)] (by decide +kernel) rfl ?_
  refine s_newaZ .int (t := 0) (by decide) rfl q131 (by decide) (by decide +kernel) (fun z7 => ?_)
  refine s_pR fl_5_21 (Or.inr ⟨_, rfl⟩) (Or.inr ⟨rfl, _, _, rfl⟩) rfl (by decide +kernel) (fun M8 => ?_)
  refine s_run (b := [(.aload_n 0, 1), (.bipush 8, 2)]) 39 [some (.inr (.inr x0))] [.inl (8 : Int32), .inr (.inr x0)] (by decide +kernel) rfl ?_
  refine s_newaZ .int (t := 0) (by decide) rfl q131 (by decide) (by decide +kernel) (fun z9 => ?_)
  refine s_pR fl_5_24 (Or.inr ⟨_, rfl⟩) (Or.inr ⟨rfl, _, _, rfl⟩) rfl (by decide +kernel) (fun M10 => ?_)
  refine s_run (b := [(.aload_n 0, 1), (.bipush 10, 2)]) 47 [some (.inr (.inr x0))] [.inl (10 : Int32), .inr (.inr x0)] (by decide +kernel) rfl ?_
  refine s_newaZ .int (t := 0) (by decide) rfl q131 (by decide) (by decide +kernel) (fun z11 => ?_)
  refine s_pR fl_5_27 (Or.inr ⟨_, rfl⟩) (Or.inr ⟨rfl, _, _, rfl⟩) rfl (by decide +kernel) (fun M12 => ?_)
  refine s_run (b := [(.aload_n 0, 1), (.bipush 10, 2)]) 55 [some (.inr (.inr x0))] [.inl (10 : Int32), .inr (.inr x0)] (by decide +kernel) rfl ?_
  refine s_newaZ .int (t := 0) (by decide) rfl q131 (by decide) (by decide +kernel) (fun z13 => ?_)
  refine s_pR fl_5_30 (Or.inr ⟨_, rfl⟩) (Or.inr ⟨rfl, _, _, rfl⟩) rfl (by decide +kernel) (fun M14 => ?_)
  refine s_run (b := [(.aload_n 0, 1), (.bipush 10, 2)]) 63 [some (.inr (.inr x0))] [.inl (10 : Int32), .inr (.inr x0)] (by decide +kernel) rfl ?_
  refine s_newaZ .int (t := 0) (by decide) rfl q131 (by decide) (by decide +kernel) (fun z15 => ?_)
  refine s_pR fl_5_33 (Or.inr ⟨_, rfl⟩) (Or.inr ⟨rfl, _, _, rfl⟩) rfl (by decide +kernel) (fun M16 => ?_)
  refine s_run (b := [(.aload_n 0, 1), (.bipush 8, 2)]) 71 [some (.inr (.inr x0))] [.inl (8 : Int32), .inr (.inr x0)] (by decide +kernel) rfl ?_
  refine s_newaZ .int (t := 0) (by decide) rfl q131 (by decide) (by decide +kernel) (fun z17 => ?_)
  refine s_pR fl_5_36 (Or.inr ⟨_, rfl⟩) (Or.inr ⟨rfl, _, _, rfl⟩) rfl (by decide +kernel) (fun M18 => ?_)
  refine s_run (b := [(.aload_n 0, 1), (.bipush 64, 2)]) 79 [some (.inr (.inr x0))] [.inl (64 : Int32), .inr (.inr x0)] (by decide +kernel) rfl ?_
  refine s_newaZ .int (t := 0) (by decide) rfl q131 (by decide) (by decide +kernel) (fun z19 => ?_)
  refine s_pR fl_5_39 (Or.inr ⟨_, rfl⟩) (Or.inr ⟨rfl, _, _, rfl⟩) rfl (by decide +kernel) (fun M20 => ?_)
  refine s_run (b := [(.aload_n 0, 1)]) 85 [some (.inr (.inr x0))] [.inr (.inr x0)] (by decide +kernel) rfl ?_
  refine s_cV (Z := Y_X5_clear) (c := 5) (vs := []) (st := []) (rO := fun _ => none) (mO := fun z => z) zk_X5_clear zi_X5_clear q46 rfl ⟨by decide, by decide⟩ ⟨rfl, rfl⟩ rfl rfl (Nat.le_of_ble_eq_true rfl) (by decide +kernel) (fun z hz => c_X5_clear hz) (fun z21 => ?_)
  change Sim l G Y_X5_init lim _ _ 88 [some (.inr (.inr x0))] [] z21
  exact s_vret (by decide +kernel) rfl
def f_X5_init (M : Mem) (x0 : Nat) : Option Mem := (f_X5_init_main (M.2.2.2.length + 10, ssum M.2.2.2 + 142) M x0).bind (fun z => rtS (M.2.2.2.length + 10, ssum M.2.2.2 + 142) z)
set_option maxRecDepth 20000 in
theorem c_X5_init {l : Launch} {G : Gv} {M : Mem} {x0 : Nat} {z : Mem} (h : f_X5_init M x0 = some z) : MetS l G Y_X5_init [.inr (.inr x0)] M none z := by
  obtain ⟨z1, h1, h2⟩ := Option.bind_eq_some_iff.mp h
  obtain ⟨h3, h2⟩ := ifs h2; cases h2
  exact met_of (ls0 := [some (.inr (.inr x0))]) (by decide) rfl (lv_in (m := 0) rfl) (sl_le (Nat.le_of_ble_eq_true rfl)) (show (f_X5_init_main (M.2.2.2.length + 10, ssum M.2.2.2 + 142) M x0).bind _ = _ by rw [h1]; rfl) (Or.inr h3) (S_X5_init M x0)
def f_X2_init_main (lim : Nat × Nat) (M : Mem) (x0 : Nat) : Option (Mem) :=
  (ob M 2 x0).bind fun _ =>
  (newS lim M (.inl 5)).bind fun z1 =>
  (ob z1.2 5 z1.1).bind fun _ => (rmS lim z1.2 10 142).bind fun _ => (f_X5_init z1.2 z1.1).bind fun M2 =>
  (pR M2 2 x0 3 z1.1).bind fun M3 =>
  (newS lim M3 (.inr (0, 8))).bind fun z4 =>
  (pR z4.2 2 x0 9 z4.1).bind fun M5 =>
  (newS lim M5 (.inr (0, 8))).bind fun z6 =>
  (pR z6.2 2 x0 10 z6.1).bind fun M7 =>
  (newS lim M7 (.inr (0, 8))).bind fun z8 =>
  (pR z8.2 2 x0 11 z8.1).bind fun M9 =>
  (newS lim M9 (.inl 3)).bind fun z10 =>
  (ob z10.2 3 z10.1).bind fun _ => (rmS lim z10.2 0 0).bind fun _ => (f_X3_init z10.2 z10.1).bind fun M11 =>
  (pR M11 2 x0 12 z10.1).bind fun M12 =>
  some M12
set_option maxRecDepth 20000 in
theorem S_X2_init {l : Launch} {G : Gv} {lim : Nat × Nat} (M : Mem) (x0 : Nat) : Sim l G Y_X2_init lim (f_X2_init_main lim M x0) (fun z => some (none, z)) 0 [some (.inr (.inr x0))] [] M := by
  unfold f_X2_init_main
  refine s_run (b := [(.aload_n 0, 1)]) 1 [some (.inr (.inr x0))] [.inr (.inr x0)] (by decide +kernel) rfl ?_
  refine s_objI q294 q27 q28 ⟨Nat.le_of_ble_eq_true rfl, Nat.le_of_ble_eq_true rfl⟩ (by decide +kernel) ?_
  refine s_run (b := [(.aload_n 0, 1)]) 5 [some (.inr (.inr x0))] [.inr (.inr x0)] (by decide +kernel) rfl ?_
  refine s_newZ (c := 5) rfl q295 q41 q3 (by decide +kernel) (fun z1 => ?_)
  refine s_run (b := [(.dup, 1)]) 9 [some (.inr (.inr x0))] [.inr (.inr z1.1), .inr (.inr z1.1), .inr (.inr x0)] (by decide +kernel) rfl ?_
  refine s_cI (Z := Y_X5_init) (vs := []) (st := [.inr (.inr z1.1), .inr (.inr x0)]) zk_X5_init ⟨rfl, q43, rfl⟩ q296 ⟨by decide, by decide⟩ rfl rfl (Nat.le_of_ble_eq_true rfl) (by decide +kernel) (fun z hz => c_X5_init hz) (fun M2 => ?_)
  refine s_pR fl_2_12 (Or.inl ⟨_, rfl⟩) (Or.inl rfl) rfl (by decide +kernel) (fun M3 => ?_)
  refine s_run (b := [(.aload_n 0, 1), (.bipush 8, 2)]) 18 [some (.inr (.inr x0))] [.inl (8 : Int32), .inr (.inr x0)] (by decide +kernel) rfl ?_
  refine s_newaZ .int (t := 0) (by decide) rfl q131 (by decide) (by decide +kernel) (fun z4 => ?_)
  refine s_pR fl_2_18 (Or.inr ⟨_, rfl⟩) (Or.inr ⟨rfl, _, _, rfl⟩) rfl (by decide +kernel) (fun M5 => ?_)
  refine s_run (b := [(.aload_n 0, 1), (.bipush 8, 2)]) 26 [some (.inr (.inr x0))] [.inl (8 : Int32), .inr (.inr x0)] (by decide +kernel) rfl ?_
  refine s_newaZ .int (t := 0) (by decide) rfl q131 (by decide) (by decide +kernel) (fun z6 => ?_)
  refine s_pR fl_2_22 (Or.inr ⟨_, rfl⟩) (Or.inr ⟨rfl, _, _, rfl⟩) rfl (by decide +kernel) (fun M7 => ?_)
  refine s_run (b := [(.aload_n 0, 1), (.bipush 8, 2)]) 34 [some (.inr (.inr x0))] [.inl (8 : Int32), .inr (.inr x0)] (by decide +kernel) rfl ?_
  refine s_newaZ .int (t := 0) (by decide) rfl q131 (by decide) (by decide +kernel) (fun z8 => ?_)
  refine s_pR fl_2_25 (Or.inr ⟨_, rfl⟩) (Or.inr ⟨rfl, _, _, rfl⟩) rfl (by decide +kernel) (fun M9 => ?_)
  refine s_run (b := [(.aload_n 0, 1)]) 40 [some (.inr (.inr x0))] [.inr (.inr x0)] (by decide +kernel) rfl ?_
  refine s_newZ (c := 3) rfl q297 q263 q7 (by decide +kernel) (fun z10 => ?_)
  refine s_run (b := [(.dup, 1)]) 44 [some (.inr (.inr x0))] [.inr (.inr z10.1), .inr (.inr z10.1), .inr (.inr x0)] (by decide +kernel) rfl ?_
  refine s_cIN (Z := Y_X3_init) (vs := []) (st := [.inr (.inr z10.1), .inr (.inr x0)]) zk_X3_init ⟨rfl, q265, rfl⟩ (List.mem_of_getElem? (i := 7) rfl) ⟨by decide, by decide⟩ rfl rfl (Nat.le_of_ble_eq_true rfl) (by decide +kernel) (fun z hz => c_X3_init hz) (fun M11 => ?_)
  refine s_pR fl_2_31 (Or.inl ⟨_, rfl⟩) (Or.inr ⟨rfl, _, _, rfl⟩) rfl (by decide +kernel) (fun M12 => ?_)
  exact s_vret (by decide +kernel) rfl
def f_X2_init (M : Mem) (x0 : Nat) : Option Mem := (f_X2_init_main (M.2.2.2.length + 15, ssum M.2.2.2 + 184) M x0).bind (fun z => rtS (M.2.2.2.length + 15, ssum M.2.2.2 + 184) z)
set_option maxRecDepth 20000 in
theorem c_X2_init {l : Launch} {G : Gv} {M : Mem} {x0 : Nat} {z : Mem} (h : f_X2_init M x0 = some z) : MetS l G Y_X2_init [.inr (.inr x0)] M none z := by
  obtain ⟨z1, h1, h2⟩ := Option.bind_eq_some_iff.mp h
  obtain ⟨h3, h2⟩ := ifs h2; cases h2
  exact met_of (ls0 := [some (.inr (.inr x0))]) (by decide) rfl (lv_in (m := 0) rfl) (sl_le (Nat.le_of_ble_eq_true rfl)) (show (f_X2_init_main (M.2.2.2.length + 15, ssum M.2.2.2 + 184) M x0).bind _ = _ by rw [h1]; rfl) (Or.inr h3) (S_X2_init M x0)
