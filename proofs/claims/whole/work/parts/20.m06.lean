def f_X6_nextTrial_B4 (M : Mem) (x0 : Nat) (x1 : Int32) (x2 : Int32) : Option ((Int32) ⊕ ((Int32))) :=
  (if x2 < 0 then
    some (.inr x2)
  else
    (gR M 6 x0 5).bind fun v2 =>
    (aI M 0 v2 x2).bind fun v3 =>
    (gR M 6 x0 5).bind fun v4 =>
    (aI M 0 v4 (x2 + (1 : Int32))).bind fun v5 =>
    (if v3 ≤ v5 then
      some (.inr x2)
    else
      some (.inl (x2 + Int32.ofInt (-1)))))
def f_X6_nextTrial_L4 (M : Mem) (x0 : Nat) (x1 : Int32) (x2 : Int32) : Option ((Int32)) := iter (fun s : Int32 => f_X6_nextTrial_B4 M x0 x1 s) 1048576 x2
set_option maxRecDepth 20000 in
theorem B_X6_nextTrial_4 {l : Launch} {G : Gv} {lim : Nat × Nat} (M : Mem) (x0 : Nat) (x1 : Int32) (x2 : Int32) (K : (Int32) ⊕ ((Int32)) → Option (Option Value × Mem)) (kk1 : ∀ (s2 : Int32), SimR l G Y_X6_nextTrial lim (K (.inl s2)) 4 [some (.inr (.inr x0)), some (.inl x1), some (.inl s2), none, none, none] [] M) (kk2_0 : ∀ (s2 : Int32), SimR l G Y_X6_nextTrial lim (K (.inr s2)) 31 [some (.inr (.inr x0)), some (.inl x1), some (.inl s2), none, none, none] [] M) : Sim l G Y_X6_nextTrial lim (f_X6_nextTrial_B4 M x0 x1 x2) K 4 [some (.inr (.inr x0)), some (.inl x1), some (.inl x2), none, none, none] [] M := by
  unfold f_X6_nextTrial_B4
  refine s_run (b := [(.iload_n 2, 1)]) 5 [some (.inr (.inr x0)), some (.inl x1), some (.inl x2), none, none, none] [.inl x2] (by decide +kernel) rfl ?_
  refine s_if_lt (tgt := 31) (off := 26) (by decide +kernel) (by decide) (fun h1 => ?_) (fun h1 => ?_)
  · skip
    exact s_lsub (ls' := [some (.inr (.inr x0)), some (.inl x1), some (.inl x2), none, none, none]) ⟨rfl, ⟨rfl, ⟨rfl, trivial⟩⟩⟩ (kk2_0 x2)
  · skip
    refine s_run (b := [(.aload_n 0, 1)]) 9 [some (.inr (.inr x0)), some (.inl x1), some (.inl x2), none, none, none] [.inr (.inr x0)] (by decide +kernel) rfl ?_
    refine s_gR fl_6_29 rfl (by decide +kernel) (fun v2 => ?_)
    refine s_run (b := [(.iload_n 2, 1)]) 13 [some (.inr (.inr x0)), some (.inl x1), some (.inl x2), none, none, none] [.inl x2, .inr (.inr v2)] (by decide +kernel) rfl ?_
    refine s_ia (by decide +kernel) (fun v3 => ?_)
    refine s_run (b := [(.aload_n 0, 1)]) 15 [some (.inr (.inr x0)), some (.inl x1), some (.inl x2), none, none, none] [.inr (.inr x0), .inl v3] (by decide +kernel) rfl ?_
    refine s_gR fl_6_29 rfl (by decide +kernel) (fun v4 => ?_)
    refine s_run (b := [(.iload_n 2, 1), (.iconst 1, 1), (.iadd, 1)]) 21 [some (.inr (.inr x0)), some (.inl x1), some (.inl x2), none, none, none] [.inl (x2 + (1 : Int32)), .inr (.inr v4), .inl v3] (by decide +kernel) rfl ?_
    refine s_ia (by decide +kernel) (fun v5 => ?_)
    refine s_ic_le (tgt := 31) (off := 9) (by decide +kernel) (by decide) (fun h6 => ?_) (fun h6 => ?_)
    · skip
      exact s_lsub (ls' := [some (.inr (.inr x0)), some (.inl x1), some (.inl x2), none, none, none]) ⟨rfl, ⟨rfl, ⟨rfl, trivial⟩⟩⟩ (kk2_0 x2)
    · skip
      refine s_run (b := [(.iinc 2 (-1), 3), (.goto (-24), 3)]) 4 [some (.inr (.inr x0)), some (.inl x1), some (.inl (x2 + Int32.ofInt (-1))), none, none, none] [] (by decide +kernel) rfl ?_
      exact s_lsub (ls' := [some (.inr (.inr x0)), some (.inl x1), some (.inl (x2 + Int32.ofInt (-1))), none, none, none]) ⟨rfl, ⟨rfl, ⟨rfl, trivial⟩⟩⟩ (kk1 (x2 + Int32.ofInt (-1)))
set_option maxRecDepth 20000 in
theorem L_X6_nextTrial_4 {l : Launch} {G : Gv} {lim : Nat × Nat} (M : Mem) (x0 : Nat) (x1 : Int32) (x2 : Int32) (K : ((Int32)) → Option (Option Value × Mem)) (kk2_0 : ∀ r : Int32, SimR l G Y_X6_nextTrial lim (K r) 31 [some (.inr (.inr x0)), some (.inl x1), some (.inl r), none, none, none] [] M) : Sim l G Y_X6_nextTrial lim (f_X6_nextTrial_L4 M x0 x1 x2) K 4 [some (.inr (.inr x0)), some (.inl x1), some (.inl x2), none, none, none] [] M :=
  s_iter (f := fun s : Int32 => f_X6_nextTrial_B4 M x0 x1 s) (hd := 4) (cl := fun s => [some (.inr (.inr x0)), some (.inl x1), some (.inl s), none, none, none]) (cm := fun s => M) (xp := fun _ => 31) (xl := fun r => [some (.inr (.inr x0)), some (.inl x1), some (.inl r), none, none, none]) (xm := fun r => M) (fun s K h1 h2 => B_X6_nextTrial_4 M x0 x1 s K (fun a2 => h1 a2) (fun a2 => h2 a2)) 1048576 x2 K kk2_0
def f_X6_nextTrial_B41 (M : Mem) (x0 : Nat) (x1 : Int32) (x2 : Int32) (x3 : Int32) : Option ((Int32) ⊕ ((Int32))) :=
  (if x3 ≤ (x2 + (1 : Int32)) then
    some (.inr x3)
  else
    (gR M 6 x0 5).bind fun v2 =>
    (aI M 0 v2 x3).bind fun v3 =>
    (gR M 6 x0 5).bind fun v4 =>
    (aI M 0 v4 x2).bind fun v5 =>
    (if v5 ≤ v3 then
      some (.inr x3)
    else
      some (.inl (x3 + Int32.ofInt (-1)))))
def f_X6_nextTrial_L41 (M : Mem) (x0 : Nat) (x1 : Int32) (x2 : Int32) (x3 : Int32) : Option ((Int32)) := iter (fun s : Int32 => f_X6_nextTrial_B41 M x0 x1 x2 s) 1048576 x3
set_option maxRecDepth 20000 in
theorem B_X6_nextTrial_41 {l : Launch} {G : Gv} {lim : Nat × Nat} (M : Mem) (x0 : Nat) (x1 : Int32) (x2 : Int32) (x3 : Int32) (K : (Int32) ⊕ ((Int32)) → Option (Option Value × Mem)) (kk1 : ∀ (s3 : Int32), SimR l G Y_X6_nextTrial lim (K (.inl s3)) 41 [some (.inr (.inr x0)), some (.inl x1), some (.inl x2), some (.inl s3), none, none] [] M) (kk2_0 : ∀ (s3 : Int32), SimR l G Y_X6_nextTrial lim (K (.inr s3)) 69 [some (.inr (.inr x0)), some (.inl x1), some (.inl x2), some (.inl s3), none, none] [] M) : Sim l G Y_X6_nextTrial lim (f_X6_nextTrial_B41 M x0 x1 x2 x3) K 41 [some (.inr (.inr x0)), some (.inl x1), some (.inl x2), some (.inl x3), none, none] [] M := by
  unfold f_X6_nextTrial_B41
  refine s_run (b := [(.iload_n 3, 1), (.iload_n 2, 1), (.iconst 1, 1), (.iadd, 1)]) 45 [some (.inr (.inr x0)), some (.inl x1), some (.inl x2), some (.inl x3), none, none] [.inl (x2 + (1 : Int32)), .inl x3] (by decide +kernel) rfl ?_
  refine s_ic_le (tgt := 69) (off := 24) (by decide +kernel) (by decide) (fun h1 => ?_) (fun h1 => ?_)
  · skip
    exact s_lsub (ls' := [some (.inr (.inr x0)), some (.inl x1), some (.inl x2), some (.inl x3), none, none]) ⟨rfl, ⟨rfl, ⟨rfl, ⟨rfl, trivial⟩⟩⟩⟩ (kk2_0 x3)
  · skip
    refine s_run (b := [(.aload_n 0, 1)]) 49 [some (.inr (.inr x0)), some (.inl x1), some (.inl x2), some (.inl x3), none, none] [.inr (.inr x0)] (by decide +kernel) rfl ?_
    refine s_gR fl_6_29 rfl (by decide +kernel) (fun v2 => ?_)
    refine s_run (b := [(.iload_n 3, 1)]) 53 [some (.inr (.inr x0)), some (.inl x1), some (.inl x2), some (.inl x3), none, none] [.inl x3, .inr (.inr v2)] (by decide +kernel) rfl ?_
    refine s_ia (by decide +kernel) (fun v3 => ?_)
    refine s_run (b := [(.aload_n 0, 1)]) 55 [some (.inr (.inr x0)), some (.inl x1), some (.inl x2), some (.inl x3), none, none] [.inr (.inr x0), .inl v3] (by decide +kernel) rfl ?_
    refine s_gR fl_6_29 rfl (by decide +kernel) (fun v4 => ?_)
    refine s_run (b := [(.iload_n 2, 1)]) 59 [some (.inr (.inr x0)), some (.inl x1), some (.inl x2), some (.inl x3), none, none] [.inl x2, .inr (.inr v4), .inl v3] (by decide +kernel) rfl ?_
    refine s_ia (by decide +kernel) (fun v5 => ?_)
    refine s_ic_ge (tgt := 69) (off := 9) (by decide +kernel) (by decide) (fun h6 => ?_) (fun h6 => ?_)
    · skip
      exact s_lsub (ls' := [some (.inr (.inr x0)), some (.inl x1), some (.inl x2), some (.inl x3), none, none]) ⟨rfl, ⟨rfl, ⟨rfl, ⟨rfl, trivial⟩⟩⟩⟩ (kk2_0 x3)
    · skip
      refine s_run (b := [(.iinc 3 (-1), 3), (.goto (-25), 3)]) 41 [some (.inr (.inr x0)), some (.inl x1), some (.inl x2), some (.inl (x3 + Int32.ofInt (-1))), none, none] [] (by decide +kernel) rfl ?_
      exact s_lsub (ls' := [some (.inr (.inr x0)), some (.inl x1), some (.inl x2), some (.inl (x3 + Int32.ofInt (-1))), none, none]) ⟨rfl, ⟨rfl, ⟨rfl, ⟨rfl, trivial⟩⟩⟩⟩ (kk1 (x3 + Int32.ofInt (-1)))
set_option maxRecDepth 20000 in
theorem L_X6_nextTrial_41 {l : Launch} {G : Gv} {lim : Nat × Nat} (M : Mem) (x0 : Nat) (x1 : Int32) (x2 : Int32) (x3 : Int32) (K : ((Int32)) → Option (Option Value × Mem)) (kk2_0 : ∀ r : Int32, SimR l G Y_X6_nextTrial lim (K r) 69 [some (.inr (.inr x0)), some (.inl x1), some (.inl x2), some (.inl r), none, none] [] M) : Sim l G Y_X6_nextTrial lim (f_X6_nextTrial_L41 M x0 x1 x2 x3) K 41 [some (.inr (.inr x0)), some (.inl x1), some (.inl x2), some (.inl x3), none, none] [] M :=
  s_iter (f := fun s : Int32 => f_X6_nextTrial_B41 M x0 x1 x2 s) (hd := 41) (cl := fun s => [some (.inr (.inr x0)), some (.inl x1), some (.inl x2), some (.inl s), none, none]) (cm := fun s => M) (xp := fun _ => 69) (xl := fun r => [some (.inr (.inr x0)), some (.inl x1), some (.inl x2), some (.inl r), none, none]) (xm := fun r => M) (fun s K h1 h2 => B_X6_nextTrial_41 M x0 x1 x2 s K (fun a3 => h1 a3) (fun a3 => h2 a3)) 1048576 x3 K kk2_0
def f_X6_nextTrial_B85 (M : Mem) (x0 : Nat) (x4 : Int32) (x5 : Int32) : Option ((Int32 × Int32 × Mem) ⊕ ((Mem))) :=
  (if x5 ≤ x4 then
    some (.inr M)
  else
    (ob M 6 x0).bind fun _ => (f_X6_swapTrial M x0 x4 x5).bind fun z2 =>
    some (.inl ((x4 + (1 : Int32)), (x5 + Int32.ofInt (-1)), z2)))
def f_X6_nextTrial_L85 (M : Mem) (x0 : Nat) (x4 : Int32) (x5 : Int32) : Option ((Mem)) := iter (fun s : Int32 × Int32 × Mem => f_X6_nextTrial_B85 s.2.2 x0 s.1 s.2.1) 1048576 (x4, x5, M)
set_option maxRecDepth 20000 in
theorem B_X6_nextTrial_85 {l : Launch} {G : Gv} {lim : Nat × Nat} (M : Mem) (x0 : Nat) (x4 : Int32) (x5 : Int32) (K : (Int32 × Int32 × Mem) ⊕ ((Mem)) → Option (Option Value × Mem)) (kk1 : ∀ (s4 : Int32) (s5 : Int32) (s_ : Mem), SimR l G Y_X6_nextTrial lim (K (.inl (s4, s5, s_))) 85 [some (.inr (.inr x0)), none, none, none, some (.inl s4), some (.inl s5)] [] s_) (kk2_0 : ∀ (s_ : Mem), SimR l G Y_X6_nextTrial lim (K (.inr s_)) 109 [none, none, none, none, none, none] [] s_) : Sim l G Y_X6_nextTrial lim (f_X6_nextTrial_B85 M x0 x4 x5) K 85 [some (.inr (.inr x0)), none, none, none, some (.inl x4), some (.inl x5)] [] M := by
  unfold f_X6_nextTrial_B85
  refine s_run (b := [(.iload 4, 2), (.iload 5, 2)]) 89 [some (.inr (.inr x0)), none, none, none, some (.inl x4), some (.inl x5)] [.inl x5, .inl x4] (by decide +kernel) rfl ?_
  refine s_ic_ge (tgt := 109) (off := 20) (by decide +kernel) (by decide) (fun h1 => ?_) (fun h1 => ?_)
  · skip
    exact s_lsub (ls' := [none, none, none, none, none, none]) trivial (kk2_0 M)
  · skip
    refine s_run (b := [(.aload_n 0, 1), (.iload 4, 2), (.iload 5, 2)]) 97 [some (.inr (.inr x0)), none, none, none, some (.inl x4), some (.inl x5)] [.inl x5, .inl x4, .inr (.inr x0)] (by decide +kernel) rfl ?_
    refine s_cV (Z := Y_X6_swapTrial) (c := 6) (vs := [.inl x4, .inl x5]) (st := []) (rO := fun _ => none) (mO := fun z => z) zk_X6_swapTrial zi_X6_swapTrial q1209 rfl ⟨by decide, by decide⟩ ⟨rfl, rfl⟩ rfl rfl (Nat.le_of_ble_eq_true rfl) (by decide +kernel) (fun z hz => c_X6_swapTrial hz) (fun z2 => ?_)
    change Sim l G Y_X6_nextTrial lim _ _ 100 [some (.inr (.inr x0)), none, none, none, some (.inl x4), some (.inl x5)] [] z2
    refine s_run (b := [(.iinc 4 1, 3), (.iinc 5 (-1), 3), (.goto (-21), 3)]) 85 [some (.inr (.inr x0)), none, none, none, some (.inl (x4 + (1 : Int32))), some (.inl (x5 + Int32.ofInt (-1)))] [] (by decide +kernel) rfl ?_
    exact s_lsub (ls' := [some (.inr (.inr x0)), none, none, none, some (.inl (x4 + (1 : Int32))), some (.inl (x5 + Int32.ofInt (-1)))]) ⟨rfl, ⟨rfl, ⟨rfl, trivial⟩⟩⟩ (kk1 (x4 + (1 : Int32)) (x5 + Int32.ofInt (-1)) z2)
set_option maxRecDepth 20000 in
theorem L_X6_nextTrial_85 {l : Launch} {G : Gv} {lim : Nat × Nat} (M : Mem) (x0 : Nat) (x4 : Int32) (x5 : Int32) (K : ((Mem)) → Option (Option Value × Mem)) (kk2_0 : ∀ r : Mem, SimR l G Y_X6_nextTrial lim (K r) 109 [none, none, none, none, none, none] [] r) : Sim l G Y_X6_nextTrial lim (f_X6_nextTrial_L85 M x0 x4 x5) K 85 [some (.inr (.inr x0)), none, none, none, some (.inl x4), some (.inl x5)] [] M :=
  s_iter (f := fun s : Int32 × Int32 × Mem => f_X6_nextTrial_B85 s.2.2 x0 s.1 s.2.1) (hd := 85) (cl := fun s => [some (.inr (.inr x0)), none, none, none, some (.inl s.1), some (.inl s.2.1)]) (cm := fun s => s.2.2) (xp := fun _ => 109) (xl := fun r => [none, none, none, none, none, none]) (xm := fun r => r) (fun s K h1 h2 => B_X6_nextTrial_85 s.2.2 x0 s.1 s.2.1 K (fun a4 a5 a_ => h1 (a4, a5, a_)) (fun a_ => h2 a_)) 1048576 (x4, x5, M) K kk2_0
def f_X6_nextTrial (M : Mem) (x0 : Nat) (x1 : Int32) : Option (Int32 × Mem) :=
  (f_X6_nextTrial_L4 M x0 x1 (x1 - (2 : Int32))).bind fun r1 =>
  (if 0 ≤ r1 then
    (f_X6_nextTrial_L41 M x0 x1 r1 (x1 - (1 : Int32))).bind fun r3 =>
    (ob M 6 x0).bind fun _ => (f_X6_swapTrial M x0 r1 r3).bind fun z4 =>
    (f_X6_nextTrial_L85 z4 x0 (r1 + (1 : Int32)) (x1 - (1 : Int32))).bind fun r5 =>
    some ((1 : Int32), r5)
  else
    some ((0 : Int32), M))
set_option maxRecDepth 20000 in
theorem S_X6_nextTrial {l : Launch} {G : Gv} {lim : Nat × Nat} (M : Mem) (x0 : Nat) (x1 : Int32) : Sim l G Y_X6_nextTrial lim (f_X6_nextTrial M x0 x1) (fun z => some (some (.int z.1), z.2)) 0 [some (.inr (.inr x0)), some (.inl x1), none, none, none, none] [] M := by
  unfold f_X6_nextTrial
  refine s_run (b := [(.iload_n 1, 1), (.iconst 2, 1), (.isub, 1), (.istore_n 2, 1)]) 4 [some (.inr (.inr x0)), some (.inl x1), some (.inl (x1 - (2 : Int32))), none, none, none] [] (by decide +kernel) rfl ?_
  refine s_lsub (ls' := [some (.inr (.inr x0)), some (.inl x1), some (.inl (x1 - (2 : Int32))), none, none, none]) ⟨rfl, ⟨rfl, ⟨rfl, trivial⟩⟩⟩ ?_
  refine sim_bind (L_X6_nextTrial_4 M x0 x1 (x1 - (2 : Int32)) _ (fun r1 => ?_))
  change Sim l G Y_X6_nextTrial lim _ _ 31 [some (.inr (.inr x0)), some (.inl x1), some (.inl r1), none, none, none] [] M
  refine s_run (b := [(.iload_n 2, 1)]) 32 [some (.inr (.inr x0)), some (.inl x1), some (.inl r1), none, none, none] [.inl r1] (by decide +kernel) rfl ?_
  refine s_if_ge (tgt := 37) (off := 5) (by decide +kernel) (by decide) (fun h2 => ?_) (fun h2 => ?_)
  · skip
    refine s_run (b := [(.iload_n 1, 1), (.iconst 1, 1), (.isub, 1), (.istore_n 3, 1)]) 41 [some (.inr (.inr x0)), some (.inl x1), some (.inl r1), some (.inl (x1 - (1 : Int32))), none, none] [] (by decide +kernel) rfl ?_
    refine s_lsub (ls' := [some (.inr (.inr x0)), some (.inl x1), some (.inl r1), some (.inl (x1 - (1 : Int32))), none, none]) ⟨rfl, ⟨rfl, ⟨rfl, ⟨rfl, trivial⟩⟩⟩⟩ ?_
    refine sim_bind (L_X6_nextTrial_41 M x0 x1 r1 (x1 - (1 : Int32)) _ (fun r3 => ?_))
    change Sim l G Y_X6_nextTrial lim _ _ 69 [some (.inr (.inr x0)), some (.inl x1), some (.inl r1), some (.inl r3), none, none] [] M
    refine s_run (b := [(.aload_n 0, 1), (.iload_n 2, 1), (.iload_n 3, 1)]) 72 [some (.inr (.inr x0)), some (.inl x1), some (.inl r1), some (.inl r3), none, none] [.inl r3, .inl r1, .inr (.inr x0)] (by decide +kernel) rfl ?_
    refine s_cV (Z := Y_X6_swapTrial) (c := 6) (vs := [.inl r1, .inl r3]) (st := []) (rO := fun _ => none) (mO := fun z => z) zk_X6_swapTrial zi_X6_swapTrial q1209 rfl ⟨by decide, by decide⟩ ⟨rfl, rfl⟩ rfl rfl (Nat.le_of_ble_eq_true rfl) (by decide +kernel) (fun z hz => c_X6_swapTrial hz) (fun z4 => ?_)
    change Sim l G Y_X6_nextTrial lim _ _ 75 [some (.inr (.inr x0)), some (.inl x1), some (.inl r1), some (.inl r3), none, none] [] z4
    refine s_run (b := [(.iload_n 2, 1), (.iconst 1, 1), (.iadd, 1), (.istore 4, 2), (.iload_n 1, 1), (.iconst 1, 1), (.isub, 1), (.istore 5, 2)]) 85 [some (.inr (.inr x0)), some (.inl x1), some (.inl r1), some (.inl r3), some (.inl (r1 + (1 : Int32))), some (.inl (x1 - (1 : Int32)))] [] (by decide +kernel) rfl ?_
    refine s_lsub (ls' := [some (.inr (.inr x0)), none, none, none, some (.inl (r1 + (1 : Int32))), some (.inl (x1 - (1 : Int32)))]) ⟨rfl, ⟨rfl, ⟨rfl, trivial⟩⟩⟩ ?_
    refine sim_bind (L_X6_nextTrial_85 z4 x0 (r1 + (1 : Int32)) (x1 - (1 : Int32)) _ (fun r5 => ?_))
    change Sim l G Y_X6_nextTrial lim _ _ 109 [none, none, none, none, none, none] [] r5
    refine s_run (b := [(.iconst 1, 1)]) 110 [none, none, none, none, none, none] [.inl (1 : Int32)] (by decide +kernel) rfl ?_
    exact s_bret (Or.inr rfl) (by decide +kernel) rfl
  · skip
    refine s_run (b := [(.iconst 0, 1)]) 36 [some (.inr (.inr x0)), some (.inl x1), some (.inl r1), none, none, none] [.inl (0 : Int32)] (by decide +kernel) rfl ?_
    exact s_bret (Or.inl rfl) (by decide +kernel) rfl
set_option maxRecDepth 20000 in
theorem c_X6_nextTrial {l : Launch} {G : Gv} {M : Mem} {x0 : Nat} {x1 : Int32} {z : Int32 × Mem} (h : f_X6_nextTrial M x0 x1 = some z) : MetS l G Y_X6_nextTrial [.inr (.inr x0), .inl x1] M (some (.int z.1)) z.2 :=
  met_of (ls0 := [some (.inr (.inr x0)), some (.inl x1), none, none, none, none]) (by decide) rfl (lv_in (m := 4) rfl) (sl_le (Nat.le_of_ble_eq_true rfl)) (by rw [h]; rfl) (Or.inl ⟨rfl, rfl⟩) (S_X6_nextTrial M x0 x1)
def f_X6_orderCalls_B7 (M : Mem) (x0 : Nat) (x1 : Nat) (x2 : Int32) (x3 : Int32) : Option ((Int32 × Mem) ⊕ ((Mem))) :=
  (if x2 ≤ x3 then
    some (.inr M)
  else
    (gR M 6 x0 5).bind fun v2 =>
    (sI M 0 v2 x3 x3).bind fun M3 =>
    some (.inl ((x3 + (1 : Int32)), M3)))
def f_X6_orderCalls_L7 (M : Mem) (x0 : Nat) (x1 : Nat) (x2 : Int32) (x3 : Int32) : Option ((Mem)) := iter (fun s : Int32 × Mem => f_X6_orderCalls_B7 s.2 x0 x1 x2 s.1) 1048576 (x3, M)
set_option maxRecDepth 20000 in
theorem B_X6_orderCalls_7 {l : Launch} {G : Gv} {lim : Nat × Nat} (M : Mem) (x0 : Nat) (x1 : Nat) (x2 : Int32) (x3 : Int32) (K : (Int32 × Mem) ⊕ ((Mem)) → Option (Option Value × Mem)) (kk1 : ∀ (s3 : Int32) (s_ : Mem), SimR l G Y_X6_orderCalls lim (K (.inl (s3, s_))) 7 [some (.inr (.inr x0)), some (.inr (.inr x1)), some (.inl x2), some (.inl s3), none] [] s_) (kk2_0 : ∀ (s_ : Mem), SimR l G Y_X6_orderCalls lim (K (.inr s_)) 25 [some (.inr (.inr x0)), some (.inr (.inr x1)), some (.inl x2), none, none] [] s_) : Sim l G Y_X6_orderCalls lim (f_X6_orderCalls_B7 M x0 x1 x2 x3) K 7 [some (.inr (.inr x0)), some (.inr (.inr x1)), some (.inl x2), some (.inl x3), none] [] M := by
  unfold f_X6_orderCalls_B7
  refine s_run (b := [(.iload_n 3, 1), (.iload_n 2, 1)]) 9 [some (.inr (.inr x0)), some (.inr (.inr x1)), some (.inl x2), some (.inl x3), none] [.inl x2, .inl x3] (by decide +kernel) rfl ?_
  refine s_ic_ge (tgt := 25) (off := 16) (by decide +kernel) (by decide) (fun h1 => ?_) (fun h1 => ?_)
  · skip
    exact s_lsub (ls' := [some (.inr (.inr x0)), some (.inr (.inr x1)), some (.inl x2), none, none]) ⟨rfl, ⟨rfl, ⟨rfl, trivial⟩⟩⟩ (kk2_0 M)
  · skip
    refine s_run (b := [(.aload_n 0, 1)]) 13 [some (.inr (.inr x0)), some (.inr (.inr x1)), some (.inl x2), some (.inl x3), none] [.inr (.inr x0)] (by decide +kernel) rfl ?_
    refine s_gR fl_6_29 rfl (by decide +kernel) (fun v2 => ?_)
    refine s_run (b := [(.iload_n 3, 1), (.iload_n 3, 1)]) 18 [some (.inr (.inr x0)), some (.inr (.inr x1)), some (.inl x2), some (.inl x3), none] [.inl x3, .inl x3, .inr (.inr v2)] (by decide +kernel) rfl ?_
    refine s_is (by decide +kernel) (fun M3 => ?_)
    refine s_run (b := [(.iinc 3 1, 3), (.goto (-15), 3)]) 7 [some (.inr (.inr x0)), some (.inr (.inr x1)), some (.inl x2), some (.inl (x3 + (1 : Int32))), none] [] (by decide +kernel) rfl ?_
    exact s_lsub (ls' := [some (.inr (.inr x0)), some (.inr (.inr x1)), some (.inl x2), some (.inl (x3 + (1 : Int32))), none]) ⟨rfl, ⟨rfl, ⟨rfl, ⟨rfl, trivial⟩⟩⟩⟩ (kk1 (x3 + (1 : Int32)) M3)
set_option maxRecDepth 20000 in
theorem L_X6_orderCalls_7 {l : Launch} {G : Gv} {lim : Nat × Nat} (M : Mem) (x0 : Nat) (x1 : Nat) (x2 : Int32) (x3 : Int32) (K : ((Mem)) → Option (Option Value × Mem)) (kk2_0 : ∀ r : Mem, SimR l G Y_X6_orderCalls lim (K r) 25 [some (.inr (.inr x0)), some (.inr (.inr x1)), some (.inl x2), none, none] [] r) : Sim l G Y_X6_orderCalls lim (f_X6_orderCalls_L7 M x0 x1 x2 x3) K 7 [some (.inr (.inr x0)), some (.inr (.inr x1)), some (.inl x2), some (.inl x3), none] [] M :=
  s_iter (f := fun s : Int32 × Mem => f_X6_orderCalls_B7 s.2 x0 x1 x2 s.1) (hd := 7) (cl := fun s => [some (.inr (.inr x0)), some (.inr (.inr x1)), some (.inl x2), some (.inl s.1), none]) (cm := fun s => s.2) (xp := fun _ => 25) (xl := fun r => [some (.inr (.inr x0)), some (.inr (.inr x1)), some (.inl x2), none, none]) (xm := fun r => r) (fun s K h1 h2 => B_X6_orderCalls_7 s.2 x0 x1 x2 s.1 K (fun a3 a_ => h1 (a3, a_)) (fun a_ => h2 a_)) 1048576 (x3, M) K kk2_0
def f_X6_orderCalls_J70 (M : Mem) (x0 : Nat) (x1 : Nat) (x2 : Int32) (x3 : Int32)  : Option ((Int32 × Mem) ⊕ ((Mem) ⊕ (Mem))) :=
  (ob M 6 x0).bind fun _ => (f_X6_nextTrial M x0 x2).bind fun z1 =>
  (if z1.1 = 0 then
    some (.inr (.inl z1.2))
  else
    some (.inl ((x3 + (1 : Int32)), z1.2)))
set_option maxRecDepth 20000 in
theorem J_X6_orderCalls_70 {l : Launch} {G : Gv} {lim : Nat × Nat} (M : Mem) (x0 : Nat) (x1 : Nat) (x2 : Int32) (x3 : Int32)  (K : (Int32 × Mem) ⊕ ((Mem) ⊕ (Mem)) → Option (Option Value × Mem)) (kk1 : ∀ (s3 : Int32) (s_ : Mem), SimR l G Y_X6_orderCalls lim (K (.inl (s3, s_))) 27 [some (.inr (.inr x0)), some (.inr (.inr x1)), some (.inl x2), some (.inl s3), none] [] s_) (kk2_0 : ∀ (s_ : Mem), SimR l G Y_X6_orderCalls lim (K (.inr (.inl s_))) 78 [none, none, none, none, none] [] s_) (kk2_1 : ∀ (s_ : Mem), SimR l G Y_X6_orderCalls lim (K (.inr (.inr s_))) 85 [none, none, none, none, none] [] s_) : Sim l G Y_X6_orderCalls lim (f_X6_orderCalls_J70 M x0 x1 x2 x3) K 70 [some (.inr (.inr x0)), some (.inr (.inr x1)), some (.inl x2), some (.inl x3), none] [] M := by
  unfold f_X6_orderCalls_J70
  refine s_run (b := [(.aload_n 0, 1), (.iload_n 2, 1)]) 72 [some (.inr (.inr x0)), some (.inr (.inr x1)), some (.inl x2), some (.inl x3), none] [.inl x2, .inr (.inr x0)] (by decide +kernel) rfl ?_
  refine s_cV (Z := Y_X6_nextTrial) (c := 6) (vs := [.inl x2]) (st := []) (rO := fun z => some (.inl z.1)) (mO := fun z => z.2) zk_X6_nextTrial zi_X6_nextTrial q1205 rfl ⟨by decide, by decide⟩ ⟨rfl, rfl⟩ rfl rfl (Nat.le_of_ble_eq_true rfl) (by decide +kernel) (fun z hz => c_X6_nextTrial hz) (fun z1 => ?_)
  change Sim l G Y_X6_orderCalls lim _ _ 75 [some (.inr (.inr x0)), some (.inr (.inr x1)), some (.inl x2), some (.inl x3), none] [.inl z1.1] z1.2
  refine s_if_ne (tgt := 79) (off := 4) (by decide +kernel) (by decide) (fun h2 => ?_) (fun h2 => ?_)
  · skip
    exact s_lsub (ls' := [none, none, none, none, none]) trivial (kk2_0 z1.2)
  · skip
    refine s_run (b := [(.iinc 3 1, 3), (.goto (-55), 3)]) 27 [some (.inr (.inr x0)), some (.inr (.inr x1)), some (.inl x2), some (.inl (x3 + (1 : Int32))), none] [] (by decide +kernel) rfl ?_
    exact s_lsub (ls' := [some (.inr (.inr x0)), some (.inr (.inr x1)), some (.inl x2), some (.inl (x3 + (1 : Int32))), none]) ⟨rfl, ⟨rfl, ⟨rfl, ⟨rfl, trivial⟩⟩⟩⟩ (kk1 (x3 + (1 : Int32)) z1.2)
def f_X6_orderCalls_B27 (M : Mem) (x0 : Nat) (x1 : Nat) (x2 : Int32) (x3 : Int32) : Option ((Int32 × Mem) ⊕ ((Mem) ⊕ (Mem))) :=
  (if (120 : Int32) ≤ x3 then
    some (.inr (.inr M))
  else
    (ob M 6 x0).bind fun _ => (f_X6_gotInOrder M x0 x1 x2).bind fun z2 =>
    (gI z2.2 6 x0 0).bind fun v3 =>
    (if z2.1 ≤ v3 then
      f_X6_orderCalls_J70 z2.2 x0 x1 x2 x3 
    else
      (pI z2.2 6 x0 0 z2.1).bind fun M5 =>
      (gR M5 6 x0 5).bind fun v6 =>
      (gR M5 6 x0 2).bind fun v7 =>
      (cpA M5 0 v6 (0 : Int32) v7 (0 : Int32) x2).bind fun M8 =>
      f_X6_orderCalls_J70 M8 x0 x1 x2 x3 ))
def f_X6_orderCalls_L27 (M : Mem) (x0 : Nat) (x1 : Nat) (x2 : Int32) (x3 : Int32) : Option ((Mem) ⊕ (Mem)) := iter (fun s : Int32 × Mem => f_X6_orderCalls_B27 s.2 x0 x1 x2 s.1) 1048576 (x3, M)
set_option maxRecDepth 20000 in
theorem B_X6_orderCalls_27 {l : Launch} {G : Gv} {lim : Nat × Nat} (M : Mem) (x0 : Nat) (x1 : Nat) (x2 : Int32) (x3 : Int32) (K : (Int32 × Mem) ⊕ ((Mem) ⊕ (Mem)) → Option (Option Value × Mem)) (kk1 : ∀ (s3 : Int32) (s_ : Mem), SimR l G Y_X6_orderCalls lim (K (.inl (s3, s_))) 27 [some (.inr (.inr x0)), some (.inr (.inr x1)), some (.inl x2), some (.inl s3), none] [] s_) (kk2_0 : ∀ (s_ : Mem), SimR l G Y_X6_orderCalls lim (K (.inr (.inl s_))) 78 [none, none, none, none, none] [] s_) (kk2_1 : ∀ (s_ : Mem), SimR l G Y_X6_orderCalls lim (K (.inr (.inr s_))) 85 [none, none, none, none, none] [] s_) : Sim l G Y_X6_orderCalls lim (f_X6_orderCalls_B27 M x0 x1 x2 x3) K 27 [some (.inr (.inr x0)), some (.inr (.inr x1)), some (.inl x2), some (.inl x3), none] [] M := by
  unfold f_X6_orderCalls_B27
  refine s_run (b := [(.iload_n 3, 1), (.bipush 120, 2)]) 30 [some (.inr (.inr x0)), some (.inr (.inr x1)), some (.inl x2), some (.inl x3), none] [.inl (120 : Int32), .inl x3] (by decide +kernel) rfl ?_
  refine s_ic_ge (tgt := 85) (off := 55) (by decide +kernel) (by decide) (fun h1 => ?_) (fun h1 => ?_)
  · skip
    exact s_lsub (ls' := [none, none, none, none, none]) trivial (kk2_1 M)
  · skip
    refine s_run (b := [(.aload_n 0, 1), (.aload_n 1, 1), (.iload_n 2, 1)]) 36 [some (.inr (.inr x0)), some (.inr (.inr x1)), some (.inl x2), some (.inl x3), none] [.inl x2, .inr (.inr x1), .inr (.inr x0)] (by decide +kernel) rfl ?_
    refine s_cV (Z := Y_X6_gotInOrder) (c := 6) (vs := [.inr (.inr x1), .inl x2]) (st := []) (rO := fun z => some (.inl z.1)) (mO := fun z => z.2) zk_X6_gotInOrder zi_X6_gotInOrder q1198 rfl ⟨by decide, by decide⟩ ⟨rfl, rfl⟩ rfl rfl (Nat.le_of_ble_eq_true rfl) (by decide +kernel) (fun z hz => c_X6_gotInOrder hz) (fun z2 => ?_)
    change Sim l G Y_X6_orderCalls lim _ _ 39 [some (.inr (.inr x0)), some (.inr (.inr x1)), some (.inl x2), some (.inl x3), none] [.inl z2.1] z2.2
    refine s_run (b := [(.istore 4, 2), (.iload 4, 2), (.aload_n 0, 1)]) 44 [some (.inr (.inr x0)), some (.inr (.inr x1)), some (.inl x2), some (.inl x3), some (.inl z2.1)] [.inr (.inr x0), .inl z2.1] (by decide +kernel) rfl ?_
    refine s_gI fl_6_68 rfl (by decide +kernel) (fun v3 => ?_)
    refine s_ic_le (tgt := 70) (off := 23) (by decide +kernel) (by decide) (fun h4 => ?_) (fun h4 => ?_)
    · skip
      exact s_lsub (ls' := [some (.inr (.inr x0)), some (.inr (.inr x1)), some (.inl x2), some (.inl x3), none]) ⟨rfl, ⟨rfl, ⟨rfl, ⟨rfl, trivial⟩⟩⟩⟩ (J_X6_orderCalls_70 z2.2 x0 x1 x2 x3  K kk1 kk2_0 kk2_1)
    · skip
      refine s_run (b := [(.aload_n 0, 1), (.iload 4, 2)]) 53 [some (.inr (.inr x0)), some (.inr (.inr x1)), some (.inl x2), some (.inl x3), some (.inl z2.1)] [.inl z2.1, .inr (.inr x0)] (by decide +kernel) rfl ?_
      refine s_pI fl_6_68 (Or.inl rfl) rfl (by decide +kernel) (fun M5 => ?_)
      refine s_run (b := [(.aload_n 0, 1)]) 57 [some (.inr (.inr x0)), some (.inr (.inr x1)), some (.inl x2), some (.inl x3), some (.inl z2.1)] [.inr (.inr x0)] (by decide +kernel) rfl ?_
      refine s_gR fl_6_29 rfl (by decide +kernel) (fun v6 => ?_)
      refine s_run (b := [(.iconst 0, 1), (.aload_n 0, 1)]) 62 [some (.inr (.inr x0)), some (.inr (.inr x1)), some (.inl x2), some (.inl x3), some (.inl z2.1)] [.inr (.inr x0), .inl (0 : Int32), .inr (.inr v6)] (by decide +kernel) rfl ?_
      refine s_gR fl_6_9 rfl (by decide +kernel) (fun v7 => ?_)
      refine s_run (b := [(.iconst 0, 1), (.iload_n 2, 1)]) 67 [some (.inr (.inr x0)), some (.inr (.inr x1)), some (.inl x2), some (.inl x3), some (.inl z2.1)] [.inl x2, .inl (0 : Int32), .inr (.inr v7), .inl (0 : Int32), .inr (.inr v6)] (by decide +kernel) rfl ?_
      refine s_copy (by decide) q1204 ⟨q694, q693, q19⟩ ⟨Nat.le_of_ble_eq_true rfl, Nat.le_of_ble_eq_true rfl⟩ (by decide +kernel) (fun M8 => ?_)
      exact s_lsub (ls' := [some (.inr (.inr x0)), some (.inr (.inr x1)), some (.inl x2), some (.inl x3), none]) ⟨rfl, ⟨rfl, ⟨rfl, ⟨rfl, trivial⟩⟩⟩⟩ (J_X6_orderCalls_70 M8 x0 x1 x2 x3  K kk1 kk2_0 kk2_1)
set_option maxRecDepth 20000 in
theorem L_X6_orderCalls_27 {l : Launch} {G : Gv} {lim : Nat × Nat} (M : Mem) (x0 : Nat) (x1 : Nat) (x2 : Int32) (x3 : Int32) (K : ((Mem) ⊕ (Mem)) → Option (Option Value × Mem)) (kk2_0 : ∀ r : Mem, SimR l G Y_X6_orderCalls lim (K (.inl r)) 78 [none, none, none, none, none] [] r) (kk2_1 : ∀ r : Mem, SimR l G Y_X6_orderCalls lim (K (.inr r)) 85 [none, none, none, none, none] [] r) : Sim l G Y_X6_orderCalls lim (f_X6_orderCalls_L27 M x0 x1 x2 x3) K 27 [some (.inr (.inr x0)), some (.inr (.inr x1)), some (.inl x2), some (.inl x3), none] [] M :=
  s_iter (f := fun s : Int32 × Mem => f_X6_orderCalls_B27 s.2 x0 x1 x2 s.1) (hd := 27) (cl := fun s => [some (.inr (.inr x0)), some (.inr (.inr x1)), some (.inl x2), some (.inl s.1), none]) (cm := fun s => s.2) (xp := (fun r => match r with | .inl r => 78 | .inr r => 85)) (xl := (fun r => match r with | .inl r => [none, none, none, none, none] | .inr r => [none, none, none, none, none])) (xm := (fun r => match r with | .inl r => r | .inr r => r)) (fun s K h1 h2 => B_X6_orderCalls_27 s.2 x0 x1 x2 s.1 K (fun a3 a_ => h1 (a3, a_)) (fun a_ => h2 (.inl a_)) (fun a_ => h2 (.inr a_))) 1048576 (x3, M) K (fun r => by
    rcases r with r | r
    · exact kk2_0 r
    · exact kk2_1 r)
def f_X6_orderCalls (M : Mem) (x0 : Nat) (x1 : Nat) (x2 : Int32) : Option (Mem) :=
  (pI M 6 x0 0 (-1 : Int32)).bind fun M1 =>
  (f_X6_orderCalls_L7 M1 x0 x1 x2 (0 : Int32)).bind fun r2 =>
  ((f_X6_orderCalls_L27 r2 x0 x1 x2 (0 : Int32)).bind fun r3 => match r3 with
  | .inl r3 => some r3
  | .inr r3 => some r3)
set_option maxRecDepth 20000 in
theorem S_X6_orderCalls {l : Launch} {G : Gv} {lim : Nat × Nat} (M : Mem) (x0 : Nat) (x1 : Nat) (x2 : Int32) : Sim l G Y_X6_orderCalls lim (f_X6_orderCalls M x0 x1 x2) (fun z => some (none, z)) 0 [some (.inr (.inr x0)), some (.inr (.inr x1)), some (.inl x2), none, none] [] M := by
  unfold f_X6_orderCalls
  refine s_run (b := [(.aload_n 0, 1), (.iconst (-1), 1)]) 2 [some (.inr (.inr x0)), some (.inr (.inr x1)), some (.inl x2), none, none] [.inl (-1 : Int32), .inr (.inr x0)] (by decide +kernel) rfl ?_
  refine s_pI fl_6_68 (Or.inl rfl) rfl (by decide +kernel) (fun M1 => ?_)
  refine s_run (b := [(.iconst 0, 1), (.istore_n 3, 1)]) 7 [some (.inr (.inr x0)), some (.inr (.inr x1)), some (.inl x2), some (.inl (0 : Int32)), none] [] (by decide +kernel) rfl ?_
  refine s_lsub (ls' := [some (.inr (.inr x0)), some (.inr (.inr x1)), some (.inl x2), some (.inl (0 : Int32)), none]) ⟨rfl, ⟨rfl, ⟨rfl, ⟨rfl, trivial⟩⟩⟩⟩ ?_
  refine sim_bind (L_X6_orderCalls_7 M1 x0 x1 x2 (0 : Int32) _ (fun r2 => ?_))
  change Sim l G Y_X6_orderCalls lim _ _ 25 [some (.inr (.inr x0)), some (.inr (.inr x1)), some (.inl x2), none, none] [] r2
  refine s_run (b := [(.iconst 0, 1), (.istore_n 3, 1)]) 27 [some (.inr (.inr x0)), some (.inr (.inr x1)), some (.inl x2), some (.inl (0 : Int32)), none] [] (by decide +kernel) rfl ?_
  refine s_lsub (ls' := [some (.inr (.inr x0)), some (.inr (.inr x1)), some (.inl x2), some (.inl (0 : Int32)), none]) ⟨rfl, ⟨rfl, ⟨rfl, ⟨rfl, trivial⟩⟩⟩⟩ ?_
  refine sim_bind (L_X6_orderCalls_27 r2 x0 x1 x2 (0 : Int32) _ (fun r3 => ?_) (fun r3 => ?_))
  · change Sim l G Y_X6_orderCalls lim _ _ 78 [none, none, none, none, none] [] r3
    exact s_vret (by decide +kernel) rfl
  · change Sim l G Y_X6_orderCalls lim _ _ 85 [none, none, none, none, none] [] r3
    exact s_vret (by decide +kernel) rfl
set_option maxRecDepth 20000 in
theorem c_X6_orderCalls {l : Launch} {G : Gv} {M : Mem} {x0 : Nat} {x1 : Nat} {x2 : Int32} {z : Mem} (h : f_X6_orderCalls M x0 x1 x2 = some z) : MetS l G Y_X6_orderCalls [.inr (.inr x0), .inr (.inr x1), .inl x2] M none z :=
  met_of (ls0 := [some (.inr (.inr x0)), some (.inr (.inr x1)), some (.inl x2), none, none]) (by decide) rfl (lv_in (m := 2) rfl) (sl_le (Nat.le_of_ble_eq_true rfl)) (by rw [h]; rfl) (Or.inl ⟨rfl, rfl⟩) (S_X6_orderCalls M x0 x1 x2)
def f_X11_order (M : Mem) (x0 : Nat) (x1 : Int32) (x2 : Int32) (x3 : Int32) : Option (Int32 × Mem) :=
  (gR M 11 x0 0).bind fun v1 =>
  (ob M 9 v1).bind fun _ => (f_X9_officeAt M v1 x1).bind fun v2 =>
  (if v2 = 0 then
    some ((-1 : Int32), M)
  else
    (if x2 < 0 then
      some ((-1 : Int32), M)
    else
      (if (5 : Int32) < x2 then
        some ((-1 : Int32), M)
      else
        (gI M 5 v2 1).bind fun v6 =>
        (if v6 < x2 then
          some ((-1 : Int32), M)
        else
          (if x3 < (-1 : Int32) then
            some ((-1 : Int32), M)
          else
            (if x3 < x2 then
              (gR M 11 x0 9).bind fun v10 =>
              (ob M 6 v10).bind fun _ => (f_X6_orderCalls M v10 v2 x2).bind fun z11 =>
              (if x3 = (-1 : Int32) then
                (gR z11 11 x0 9).bind fun v13 =>
                (gI z11 6 v13 0).bind fun v14 =>
                some (v14, z11)
              else
                (gR z11 11 x0 9).bind fun v15 =>
                (gR z11 6 v15 2).bind fun v16 =>
                (aI z11 0 v16 x3).bind fun v17 =>
                some (v17, z11))
            else
              some ((-1 : Int32), M)))))))
set_option maxRecDepth 20000 in
theorem S_X11_order {l : Launch} {G : Gv} {lim : Nat × Nat} (M : Mem) (x0 : Nat) (x1 : Int32) (x2 : Int32) (x3 : Int32) : Sim l G Y_X11_order lim (f_X11_order M x0 x1 x2 x3) (fun z => some (some (.int z.1), z.2)) 0 [some (.inr (.inr x0)), some (.inl x1), some (.inl x2), some (.inl x3), none] [] M := by
  unfold f_X11_order
  refine s_run (b := [(.aload_n 0, 1)]) 1 [some (.inr (.inr x0)), some (.inl x1), some (.inl x2), some (.inl x3), none] [.inr (.inr x0)] (by decide +kernel) rfl ?_
  refine s_gR fl_11_10 rfl (by decide +kernel) (fun v1 => ?_)
  refine s_run (b := [(.iload_n 1, 1)]) 5 [some (.inr (.inr x0)), some (.inl x1), some (.inl x2), some (.inl x3), none] [.inl x1, .inr (.inr v1)] (by decide +kernel) rfl ?_
  refine s_cV (Z := Y_X9_officeAt) (c := 9) (vs := [.inl x1]) (st := []) (rO := fun z => some (.inr (.inr z))) (mO := fun _ => M) zk_X9_officeAt zi_X9_officeAt q716 rfl ⟨by decide, by decide⟩ ⟨rfl, rfl⟩ rfl rfl (Nat.le_of_ble_eq_true rfl) (by decide +kernel) (fun z hz => c_X9_officeAt hz) (fun v2 => ?_)
  change Sim l G Y_X11_order lim _ _ 8 [some (.inr (.inr x0)), some (.inl x1), some (.inl x2), some (.inl x3), none] [.inr (.inr v2)] M
  refine s_run (b := [(.astore 4, 2), (.aload 4, 2)]) 12 [some (.inr (.inr x0)), some (.inl x1), some (.inl x2), some (.inl x3), some (.inr (.inr v2))] [.inr (.inr v2)] (by decide +kernel) rfl ?_
  refine s_ifnull (tgt := 43) (off := 31) (by decide +kernel) (by decide) (fun h3 => ?_) (fun h3 => ?_)
  · skip
    refine s_run (b := [(.iconst (-1), 1)]) 44 [some (.inr (.inr x0)), some (.inl x1), some (.inl x2), some (.inl x3), some (.inr (.inr v2))] [.inl (-1 : Int32)] (by decide +kernel) rfl ?_
    exact s_iret (by decide +kernel) rfl
  · skip
    refine s_run (b := [(.iload_n 2, 1)]) 16 [some (.inr (.inr x0)), some (.inl x1), some (.inl x2), some (.inl x3), some (.inr (.inr v2))] [.inl x2] (by decide +kernel) rfl ?_
    refine s_if_lt (tgt := 43) (off := 27) (by decide +kernel) (by decide) (fun h4 => ?_) (fun h4 => ?_)
    · skip
      refine s_run (b := [(.iconst (-1), 1)]) 44 [some (.inr (.inr x0)), some (.inl x1), some (.inl x2), some (.inl x3), some (.inr (.inr v2))] [.inl (-1 : Int32)] (by decide +kernel) rfl ?_
      exact s_iret (by decide +kernel) rfl
    · skip
      refine s_run (b := [(.iload_n 2, 1), (.iconst 5, 1)]) 21 [some (.inr (.inr x0)), some (.inl x1), some (.inl x2), some (.inl x3), some (.inr (.inr v2))] [.inl (5 : Int32), .inl x2] (by decide +kernel) rfl ?_
      refine s_ic_gt (tgt := 43) (off := 22) (by decide +kernel) (by decide) (fun h5 => ?_) (fun h5 => ?_)
      · skip
        refine s_run (b := [(.iconst (-1), 1)]) 44 [some (.inr (.inr x0)), some (.inl x1), some (.inl x2), some (.inl x3), some (.inr (.inr v2))] [.inl (-1 : Int32)] (by decide +kernel) rfl ?_
        exact s_iret (by decide +kernel) rfl
      · skip
        refine s_run (b := [(.iload_n 2, 1), (.aload 4, 2)]) 27 [some (.inr (.inr x0)), some (.inl x1), some (.inl x2), some (.inl x3), some (.inr (.inr v2))] [.inr (.inr v2), .inl x2] (by decide +kernel) rfl ?_
        refine s_gI fl_11_239 rfl (by decide +kernel) (fun v6 => ?_)
        refine s_ic_gt (tgt := 43) (off := 13) (by decide +kernel) (by decide) (fun h7 => ?_) (fun h7 => ?_)
        · skip
          refine s_run (b := [(.iconst (-1), 1)]) 44 [some (.inr (.inr x0)), some (.inl x1), some (.inl x2), some (.inl x3), some (.inr (.inr v2))] [.inl (-1 : Int32)] (by decide +kernel) rfl ?_
          exact s_iret (by decide +kernel) rfl
        · skip
          refine s_run (b := [(.iload_n 3, 1), (.iconst (-1), 1)]) 35 [some (.inr (.inr x0)), some (.inl x1), some (.inl x2), some (.inl x3), some (.inr (.inr v2))] [.inl (-1 : Int32), .inl x3] (by decide +kernel) rfl ?_
          refine s_ic_lt (tgt := 43) (off := 8) (by decide +kernel) (by decide) (fun h8 => ?_) (fun h8 => ?_)
          · skip
            refine s_run (b := [(.iconst (-1), 1)]) 44 [some (.inr (.inr x0)), some (.inl x1), some (.inl x2), some (.inl x3), some (.inr (.inr v2))] [.inl (-1 : Int32)] (by decide +kernel) rfl ?_
            exact s_iret (by decide +kernel) rfl
          · skip
            refine s_run (b := [(.iload_n 3, 1), (.iload_n 2, 1)]) 40 [some (.inr (.inr x0)), some (.inl x1), some (.inl x2), some (.inl x3), some (.inr (.inr v2))] [.inl x2, .inl x3] (by decide +kernel) rfl ?_
            refine s_ic_lt (tgt := 45) (off := 5) (by decide +kernel) (by decide) (fun h9 => ?_) (fun h9 => ?_)
            · skip
              refine s_run (b := [(.aload_n 0, 1)]) 46 [some (.inr (.inr x0)), some (.inl x1), some (.inl x2), some (.inl x3), some (.inr (.inr v2))] [.inr (.inr x0)] (by decide +kernel) rfl ?_
              refine s_gR fl_11_69 rfl (by decide +kernel) (fun v10 => ?_)
              refine s_run (b := [(.aload 4, 2), (.iload_n 2, 1)]) 52 [some (.inr (.inr x0)), some (.inl x1), some (.inl x2), some (.inl x3), some (.inr (.inr v2))] [.inl x2, .inr (.inr v2), .inr (.inr v10)] (by decide +kernel) rfl ?_
              refine s_cV (Z := Y_X6_orderCalls) (c := 6) (vs := [.inr (.inr v2), .inl x2]) (st := []) (rO := fun _ => none) (mO := fun z => z) zk_X6_orderCalls zi_X6_orderCalls q1194 rfl ⟨by decide, by decide⟩ ⟨rfl, rfl⟩ rfl rfl (Nat.le_of_ble_eq_true rfl) (by decide +kernel) (fun z hz => c_X6_orderCalls hz) (fun z11 => ?_)
              change Sim l G Y_X11_order lim _ _ 55 [some (.inr (.inr x0)), some (.inl x1), some (.inl x2), some (.inl x3), some (.inr (.inr v2))] [] z11
              refine s_run (b := [(.iload_n 3, 1), (.iconst (-1), 1)]) 57 [some (.inr (.inr x0)), some (.inl x1), some (.inl x2), some (.inl x3), some (.inr (.inr v2))] [.inl (-1 : Int32), .inl x3] (by decide +kernel) rfl ?_
              refine s_ic_ne (tgt := 70) (off := 13) (by decide +kernel) (by decide) (fun h12 => ?_) (fun h12 => ?_)
              · skip
                refine s_run (b := [(.aload_n 0, 1)]) 61 [some (.inr (.inr x0)), some (.inl x1), some (.inl x2), some (.inl x3), some (.inr (.inr v2))] [.inr (.inr x0)] (by decide +kernel) rfl ?_
                refine s_gR fl_11_69 rfl (by decide +kernel) (fun v13 => ?_)
                refine s_gI fl_11_224 rfl (by decide +kernel) (fun v14 => ?_)
                refine s_run (b := [(.goto 12, 3)]) 79 [some (.inr (.inr x0)), some (.inl x1), some (.inl x2), some (.inl x3), some (.inr (.inr v2))] [.inl v14] (by decide +kernel) rfl ?_
                exact s_iret (by decide +kernel) rfl
              · skip
                refine s_run (b := [(.aload_n 0, 1)]) 71 [some (.inr (.inr x0)), some (.inl x1), some (.inl x2), some (.inl x3), some (.inr (.inr v2))] [.inr (.inr x0)] (by decide +kernel) rfl ?_
                refine s_gR fl_11_69 rfl (by decide +kernel) (fun v15 => ?_)
                refine s_gR fl_11_274 rfl (by decide +kernel) (fun v16 => ?_)
                refine s_run (b := [(.iload_n 3, 1)]) 78 [some (.inr (.inr x0)), some (.inl x1), some (.inl x2), some (.inl x3), some (.inr (.inr v2))] [.inl x3, .inr (.inr v16)] (by decide +kernel) rfl ?_
                refine s_ia (by decide +kernel) (fun v17 => ?_)
                exact s_iret (by decide +kernel) rfl
            · skip
              refine s_run (b := [(.iconst (-1), 1)]) 44 [some (.inr (.inr x0)), some (.inl x1), some (.inl x2), some (.inl x3), some (.inr (.inr v2))] [.inl (-1 : Int32)] (by decide +kernel) rfl ?_
              exact s_iret (by decide +kernel) rfl
set_option maxRecDepth 20000 in
theorem c_X11_order {l : Launch} {G : Gv} {M : Mem} {x0 : Nat} {x1 : Int32} {x2 : Int32} {x3 : Int32} {z : Int32 × Mem} (h : f_X11_order M x0 x1 x2 x3 = some z) : MetS l G Y_X11_order [.inr (.inr x0), .inl x1, .inl x2, .inl x3] M (some (.int z.1)) z.2 :=
  met_of (ls0 := [some (.inr (.inr x0)), some (.inl x1), some (.inl x2), some (.inl x3), none]) (by decide) rfl (lv_in (m := 1) rfl) (sl_le (Nat.le_of_ble_eq_true rfl)) (by rw [h]; rfl) (Or.inl ⟨rfl, rfl⟩) (S_X11_order M x0 x1 x2 x3)
def f_X5_withHearers_B4 (M : Mem) (x0 : Nat) (x1 : Int32) (x2 : Int32) (x3 : Int32) : Option ((Int32 × Int32) ⊕ ((Int32))) :=
  (gI M 5 x0 0).bind fun v1 =>
  (if v1 ≤ x3 then
    some (.inr x2)
  else
    (if ((x1 >>> (x3 &&& 31)) &&& (1 : Int32)) = 0 then
      some (.inl (x2, (x3 + (1 : Int32))))
    else
      (gR M 5 x0 13).bind fun v4 =>
      (aI M 0 v4 x3).bind fun v5 =>
      some (.inl ((x2 ||| v5), (x3 + (1 : Int32))))))
def f_X5_withHearers_L4 (M : Mem) (x0 : Nat) (x1 : Int32) (x2 : Int32) (x3 : Int32) : Option ((Int32)) := iter (fun s : Int32 × Int32 => f_X5_withHearers_B4 M x0 x1 s.1 s.2) 1048576 (x2, x3)
set_option maxRecDepth 20000 in
theorem B_X5_withHearers_4 {l : Launch} {G : Gv} {lim : Nat × Nat} (M : Mem) (x0 : Nat) (x1 : Int32) (x2 : Int32) (x3 : Int32) (K : (Int32 × Int32) ⊕ ((Int32)) → Option (Option Value × Mem)) (kk1 : ∀ (s2 : Int32) (s3 : Int32), SimR l G Y_X5_withHearers lim (K (.inl (s2, s3))) 4 [some (.inr (.inr x0)), some (.inl x1), some (.inl s2), some (.inl s3)] [] M) (kk2_0 : ∀ (s2 : Int32), SimR l G Y_X5_withHearers lim (K (.inr s2)) 35 [none, none, some (.inl s2), none] [] M) : Sim l G Y_X5_withHearers lim (f_X5_withHearers_B4 M x0 x1 x2 x3) K 4 [some (.inr (.inr x0)), some (.inl x1), some (.inl x2), some (.inl x3)] [] M := by
  unfold f_X5_withHearers_B4
  refine s_run (b := [(.iload_n 3, 1), (.aload_n 0, 1)]) 6 [some (.inr (.inr x0)), some (.inl x1), some (.inl x2), some (.inl x3)] [.inr (.inr x0), .inl x3] (by decide +kernel) rfl ?_
  refine s_gI fl_5_45 rfl (by decide +kernel) (fun v1 => ?_)
  refine s_ic_ge (tgt := 35) (off := 26) (by decide +kernel) (by decide) (fun h2 => ?_) (fun h2 => ?_)
  · skip
    exact s_lsub (ls' := [none, none, some (.inl x2), none]) ⟨rfl, trivial⟩ (kk2_0 x2)
  · skip
    refine s_run (b := [(.iload_n 1, 1), (.iload_n 3, 1), (.ishr, 1), (.iconst 1, 1), (.iand, 1)]) 17 [some (.inr (.inr x0)), some (.inl x1), some (.inl x2), some (.inl x3)] [.inl ((x1 >>> (x3 &&& 31)) &&& (1 : Int32))] (by decide +kernel) rfl ?_
    refine s_if_eq (tgt := 29) (off := 12) (by decide +kernel) (by decide) (fun h3 => ?_) (fun h3 => ?_)
    · skip
      refine s_run (b := [(.iinc 3 1, 3), (.goto (-28), 3)]) 4 [some (.inr (.inr x0)), some (.inl x1), some (.inl x2), some (.inl (x3 + (1 : Int32)))] [] (by decide +kernel) rfl ?_
      exact s_lsub (ls' := [some (.inr (.inr x0)), some (.inl x1), some (.inl x2), some (.inl (x3 + (1 : Int32)))]) ⟨rfl, ⟨rfl, ⟨rfl, ⟨rfl, trivial⟩⟩⟩⟩ (kk1 x2 (x3 + (1 : Int32)))
    · skip
      refine s_run (b := [(.iload_n 2, 1), (.aload_n 0, 1)]) 22 [some (.inr (.inr x0)), some (.inl x1), some (.inl x2), some (.inl x3)] [.inr (.inr x0), .inl x2] (by decide +kernel) rfl ?_
      refine s_gR fl_5_36 rfl (by decide +kernel) (fun v4 => ?_)
      refine s_run (b := [(.iload_n 3, 1)]) 26 [some (.inr (.inr x0)), some (.inl x1), some (.inl x2), some (.inl x3)] [.inl x3, .inr (.inr v4), .inl x2] (by decide +kernel) rfl ?_
      refine s_ia (by decide +kernel) (fun v5 => ?_)
      refine s_run (b := [(.ior, 1), (.istore_n 2, 1), (.iinc 3 1, 3), (.goto (-28), 3)]) 4 [some (.inr (.inr x0)), some (.inl x1), some (.inl (x2 ||| v5)), some (.inl (x3 + (1 : Int32)))] [] (by decide +kernel) rfl ?_
      exact s_lsub (ls' := [some (.inr (.inr x0)), some (.inl x1), some (.inl (x2 ||| v5)), some (.inl (x3 + (1 : Int32)))]) ⟨rfl, ⟨rfl, ⟨rfl, ⟨rfl, trivial⟩⟩⟩⟩ (kk1 (x2 ||| v5) (x3 + (1 : Int32)))
set_option maxRecDepth 20000 in
theorem L_X5_withHearers_4 {l : Launch} {G : Gv} {lim : Nat × Nat} (M : Mem) (x0 : Nat) (x1 : Int32) (x2 : Int32) (x3 : Int32) (K : ((Int32)) → Option (Option Value × Mem)) (kk2_0 : ∀ r : Int32, SimR l G Y_X5_withHearers lim (K r) 35 [none, none, some (.inl r), none] [] M) : Sim l G Y_X5_withHearers lim (f_X5_withHearers_L4 M x0 x1 x2 x3) K 4 [some (.inr (.inr x0)), some (.inl x1), some (.inl x2), some (.inl x3)] [] M :=
  s_iter (f := fun s : Int32 × Int32 => f_X5_withHearers_B4 M x0 x1 s.1 s.2) (hd := 4) (cl := fun s => [some (.inr (.inr x0)), some (.inl x1), some (.inl s.1), some (.inl s.2)]) (cm := fun s => M) (xp := fun _ => 35) (xl := fun r => [none, none, some (.inl r), none]) (xm := fun r => M) (fun s K h1 h2 => B_X5_withHearers_4 M x0 x1 s.1 s.2 K (fun a2 a3 => h1 (a2, a3)) (fun a2 => h2 a2)) 1048576 (x2, x3) K kk2_0
def f_X5_withHearers (M : Mem) (x0 : Nat) (x1 : Int32) : Option (Int32) :=
  (f_X5_withHearers_L4 M x0 x1 x1 (0 : Int32)).bind fun r1 =>
  some r1
set_option maxRecDepth 20000 in
theorem S_X5_withHearers {l : Launch} {G : Gv} {lim : Nat × Nat} (M : Mem) (x0 : Nat) (x1 : Int32) : Sim l G Y_X5_withHearers lim (f_X5_withHearers M x0 x1) (fun z => some (some (.int z), M)) 0 [some (.inr (.inr x0)), some (.inl x1), none, none] [] M := by
  unfold f_X5_withHearers
  refine s_run (b := [(.iload_n 1, 1), (.istore_n 2, 1), (.iconst 0, 1), (.istore_n 3, 1)]) 4 [some (.inr (.inr x0)), some (.inl x1), some (.inl x1), some (.inl (0 : Int32))] [] (by decide +kernel) rfl ?_
  refine s_lsub (ls' := [some (.inr (.inr x0)), some (.inl x1), some (.inl x1), some (.inl (0 : Int32))]) ⟨rfl, ⟨rfl, ⟨rfl, ⟨rfl, trivial⟩⟩⟩⟩ ?_
  refine sim_bind (L_X5_withHearers_4 M x0 x1 x1 (0 : Int32) _ (fun r1 => ?_))
  change Sim l G Y_X5_withHearers lim _ _ 35 [none, none, some (.inl r1), none] [] M
  refine s_run (b := [(.iload_n 2, 1)]) 36 [none, none, some (.inl r1), none] [.inl r1] (by decide +kernel) rfl ?_
  exact s_iret (by decide +kernel) rfl
set_option maxRecDepth 20000 in
theorem c_X5_withHearers {l : Launch} {G : Gv} {M : Mem} {x0 : Nat} {x1 : Int32} {z : Int32} (h : f_X5_withHearers M x0 x1 = some z) : MetS l G Y_X5_withHearers [.inr (.inr x0), .inl x1] M (some (.int z)) M :=
  met_of (ls0 := [some (.inr (.inr x0)), some (.inl x1), none, none]) (by decide) rfl (lv_in (m := 2) rfl) (sl_le (Nat.le_of_ble_eq_true rfl)) (by rw [h]; rfl) (Or.inl ⟨rfl, rfl⟩) (S_X5_withHearers M x0 x1)
def f_X5_passesBetween_B7 (M : Mem) (x0 : Nat) (x2 : Int32) (x3 : Int32) (x4 : Int32) : Option ((Int32 × Int32) ⊕ ((Int32) ⊕ (Unit))) :=
  (if (8 : Int32) ≤ x4 then
    some (.inr (.inr ()))
  else
    (if ((x3 >>> (x2 &&& 31)) &&& (1 : Int32)) = 0 then
      (ob M 5 x0).bind fun _ => (f_X5_withHearers M x0 x3).bind fun v3 =>
      some (.inl (v3, (x4 + (1 : Int32))))
    else
      some (.inr (.inl x4))))
def f_X5_passesBetween_L7 (M : Mem) (x0 : Nat) (x2 : Int32) (x3 : Int32) (x4 : Int32) : Option ((Int32) ⊕ (Unit)) := iter (fun s : Int32 × Int32 => f_X5_passesBetween_B7 M x0 x2 s.1 s.2) 1048576 (x3, x4)
set_option maxRecDepth 20000 in
theorem B_X5_passesBetween_7 {l : Launch} {G : Gv} {lim : Nat × Nat} (M : Mem) (x0 : Nat) (x2 : Int32) (x3 : Int32) (x4 : Int32) (K : (Int32 × Int32) ⊕ ((Int32) ⊕ (Unit)) → Option (Option Value × Mem)) (kk1 : ∀ (s3 : Int32) (s4 : Int32), SimR l G Y_X5_passesBetween lim (K (.inl (s3, s4))) 7 [some (.inr (.inr x0)), none, some (.inl x2), some (.inl s3), some (.inl s4)] [] M) (kk2_0 : ∀ (s4 : Int32), SimR l G Y_X5_passesBetween lim (K (.inr (.inl s4))) 22 [none, none, none, none, some (.inl s4)] [] M) (kk2_1 : SimR l G Y_X5_passesBetween lim (K (.inr (.inr ()))) 37 [none, none, none, none, none] [] M) : Sim l G Y_X5_passesBetween lim (f_X5_passesBetween_B7 M x0 x2 x3 x4) K 7 [some (.inr (.inr x0)), none, some (.inl x2), some (.inl x3), some (.inl x4)] [] M := by
  unfold f_X5_passesBetween_B7
  refine s_run (b := [(.iload 4, 2), (.bipush 8, 2)]) 11 [some (.inr (.inr x0)), none, some (.inl x2), some (.inl x3), some (.inl x4)] [.inl (8 : Int32), .inl x4] (by decide +kernel) rfl ?_
  refine s_ic_ge (tgt := 37) (off := 26) (by decide +kernel) (by decide) (fun h1 => ?_) (fun h1 => ?_)
  · skip
    exact s_lsub (ls' := [none, none, none, none, none]) trivial (kk2_1 )
  · skip
    refine s_run (b := [(.iload_n 3, 1), (.iload_n 2, 1), (.ishr, 1), (.iconst 1, 1), (.iand, 1)]) 19 [some (.inr (.inr x0)), none, some (.inl x2), some (.inl x3), some (.inl x4)] [.inl ((x3 >>> (x2 &&& 31)) &&& (1 : Int32))] (by decide +kernel) rfl ?_
    refine s_if_eq (tgt := 25) (off := 6) (by decide +kernel) (by decide) (fun h2 => ?_) (fun h2 => ?_)
    · skip
      refine s_run (b := [(.aload_n 0, 1), (.iload_n 3, 1)]) 27 [some (.inr (.inr x0)), none, some (.inl x2), some (.inl x3), some (.inl x4)] [.inl x3, .inr (.inr x0)] (by decide +kernel) rfl ?_
      refine s_cV (Z := Y_X5_withHearers) (c := 5) (vs := [.inl x3]) (st := []) (rO := fun z => some (.inl z)) (mO := fun _ => M) zk_X5_withHearers zi_X5_withHearers q1119 rfl ⟨by decide, by decide⟩ ⟨rfl, rfl⟩ rfl rfl (Nat.le_of_ble_eq_true rfl) (by decide +kernel) (fun z hz => c_X5_withHearers hz) (fun v3 => ?_)
      change Sim l G Y_X5_passesBetween lim _ _ 30 [some (.inr (.inr x0)), none, some (.inl x2), some (.inl x3), some (.inl x4)] [.inl v3] M
      refine s_run (b := [(.istore_n 3, 1), (.iinc 4 1, 3), (.goto (-27), 3)]) 7 [some (.inr (.inr x0)), none, some (.inl x2), some (.inl v3), some (.inl (x4 + (1 : Int32)))] [] (by decide +kernel) rfl ?_
      exact s_lsub (ls' := [some (.inr (.inr x0)), none, some (.inl x2), some (.inl v3), some (.inl (x4 + (1 : Int32)))]) ⟨rfl, ⟨rfl, ⟨rfl, ⟨rfl, trivial⟩⟩⟩⟩ (kk1 v3 (x4 + (1 : Int32)))
    · skip
      exact s_lsub (ls' := [none, none, none, none, some (.inl x4)]) ⟨rfl, trivial⟩ (kk2_0 x4)
set_option maxRecDepth 20000 in
theorem L_X5_passesBetween_7 {l : Launch} {G : Gv} {lim : Nat × Nat} (M : Mem) (x0 : Nat) (x2 : Int32) (x3 : Int32) (x4 : Int32) (K : ((Int32) ⊕ (Unit)) → Option (Option Value × Mem)) (kk2_0 : ∀ r : Int32, SimR l G Y_X5_passesBetween lim (K (.inl r)) 22 [none, none, none, none, some (.inl r)] [] M) (kk2_1 : ∀ r : Unit, SimR l G Y_X5_passesBetween lim (K (.inr r)) 37 [none, none, none, none, none] [] M) : Sim l G Y_X5_passesBetween lim (f_X5_passesBetween_L7 M x0 x2 x3 x4) K 7 [some (.inr (.inr x0)), none, some (.inl x2), some (.inl x3), some (.inl x4)] [] M :=
  s_iter (f := fun s : Int32 × Int32 => f_X5_passesBetween_B7 M x0 x2 s.1 s.2) (hd := 7) (cl := fun s => [some (.inr (.inr x0)), none, some (.inl x2), some (.inl s.1), some (.inl s.2)]) (cm := fun s => M) (xp := (fun r => match r with | .inl r => 22 | .inr r => 37)) (xl := (fun r => match r with | .inl r => [none, none, none, none, some (.inl r)] | .inr r => [none, none, none, none, none])) (xm := (fun r => match r with | .inl r => M | .inr r => M)) (fun s K h1 h2 => B_X5_passesBetween_7 M x0 x2 s.1 s.2 K (fun a3 a4 => h1 (a3, a4)) (fun a4 => h2 (.inl a4)) (h2 (.inr ()))) 1048576 (x3, x4) K (fun r => by
    rcases r with r | r
    · exact kk2_0 r
    · exact kk2_1 r)
def f_X5_passesBetween (M : Mem) (x0 : Nat) (x1 : Int32) (x2 : Int32) : Option (Int32) :=
  ((f_X5_passesBetween_L7 M x0 x2 ((1 : Int32) <<< (x1 &&& 31)) (0 : Int32)).bind fun r1 => match r1 with
  | .inl r1 => some r1
  | .inr r1 => some (-1 : Int32))
set_option maxRecDepth 20000 in
theorem S_X5_passesBetween {l : Launch} {G : Gv} {lim : Nat × Nat} (M : Mem) (x0 : Nat) (x1 : Int32) (x2 : Int32) : Sim l G Y_X5_passesBetween lim (f_X5_passesBetween M x0 x1 x2) (fun z => some (some (.int z), M)) 0 [some (.inr (.inr x0)), some (.inl x1), some (.inl x2), none, none] [] M := by
  unfold f_X5_passesBetween
  refine s_run (b := [(.iconst 1, 1), (.iload_n 1, 1), (.ishl, 1), (.istore_n 3, 1), (.iconst 0, 1), (.istore 4, 2)]) 7 [some (.inr (.inr x0)), some (.inl x1), some (.inl x2), some (.inl ((1 : Int32) <<< (x1 &&& 31))), some (.inl (0 : Int32))] [] (by decide +kernel) rfl ?_
  refine s_lsub (ls' := [some (.inr (.inr x0)), none, some (.inl x2), some (.inl ((1 : Int32) <<< (x1 &&& 31))), some (.inl (0 : Int32))]) ⟨rfl, ⟨rfl, ⟨rfl, ⟨rfl, trivial⟩⟩⟩⟩ ?_
  refine sim_bind (L_X5_passesBetween_7 M x0 x2 ((1 : Int32) <<< (x1 &&& 31)) (0 : Int32) _ (fun r1 => ?_) (fun r1 => ?_))
  · change Sim l G Y_X5_passesBetween lim _ _ 22 [none, none, none, none, some (.inl r1)] [] M
    refine s_run (b := [(.iload 4, 2)]) 24 [none, none, none, none, some (.inl r1)] [.inl r1] (by decide +kernel) rfl ?_
    exact s_iret (by decide +kernel) rfl
  · change Sim l G Y_X5_passesBetween lim _ _ 37 [none, none, none, none, none] [] M
    refine s_run (b := [(.iconst (-1), 1)]) 38 [none, none, none, none, none] [.inl (-1 : Int32)] (by decide +kernel) rfl ?_
    exact s_iret (by decide +kernel) rfl
set_option maxRecDepth 20000 in
theorem c_X5_passesBetween {l : Launch} {G : Gv} {M : Mem} {x0 : Nat} {x1 : Int32} {x2 : Int32} {z : Int32} (h : f_X5_passesBetween M x0 x1 x2 = some z) : MetS l G Y_X5_passesBetween [.inr (.inr x0), .inl x1, .inl x2] M (some (.int z)) M :=
  met_of (ls0 := [some (.inr (.inr x0)), some (.inl x1), some (.inl x2), none, none]) (by decide) rfl (lv_in (m := 2) rfl) (sl_le (Nat.le_of_ble_eq_true rfl)) (by rw [h]; rfl) (Or.inl ⟨rfl, rfl⟩) (S_X5_passesBetween M x0 x1 x2)
def f_X11_passed (M : Mem) (x0 : Nat) (x1 : Int32) (x2 : Int32) (x3 : Int32) : Option (Int32) :=
  (gR M 11 x0 0).bind fun v1 =>
  (ob M 9 v1).bind fun _ => (f_X9_officeAt M v1 x1).bind fun v2 =>
  (if v2 = 0 then
    some (-1 : Int32)
  else
    (ob M 5 v2).bind fun _ => (f_X5_hasDesk M v2 x2).bind fun v4 =>
    (if v4 = 0 then
      some (-1 : Int32)
    else
      (ob M 5 v2).bind fun _ => (f_X5_hasDesk M v2 x3).bind fun v6 =>
      (if v6 = 0 then
        some (-1 : Int32)
      else
        (ob M 5 v2).bind fun _ => (f_X5_passesBetween M v2 x2 x3).bind fun v8 =>
        some v8)))
set_option maxRecDepth 20000 in
theorem S_X11_passed {l : Launch} {G : Gv} {lim : Nat × Nat} (M : Mem) (x0 : Nat) (x1 : Int32) (x2 : Int32) (x3 : Int32) : Sim l G Y_X11_passed lim (f_X11_passed M x0 x1 x2 x3) (fun z => some (some (.int z), M)) 0 [some (.inr (.inr x0)), some (.inl x1), some (.inl x2), some (.inl x3), none] [] M := by
  unfold f_X11_passed
  refine s_run (b := [(.aload_n 0, 1)]) 1 [some (.inr (.inr x0)), some (.inl x1), some (.inl x2), some (.inl x3), none] [.inr (.inr x0)] (by decide +kernel) rfl ?_
  refine s_gR fl_11_10 rfl (by decide +kernel) (fun v1 => ?_)
  refine s_run (b := [(.iload_n 1, 1)]) 5 [some (.inr (.inr x0)), some (.inl x1), some (.inl x2), some (.inl x3), none] [.inl x1, .inr (.inr v1)] (by decide +kernel) rfl ?_
  refine s_cV (Z := Y_X9_officeAt) (c := 9) (vs := [.inl x1]) (st := []) (rO := fun z => some (.inr (.inr z))) (mO := fun _ => M) zk_X9_officeAt zi_X9_officeAt q716 rfl ⟨by decide, by decide⟩ ⟨rfl, rfl⟩ rfl rfl (Nat.le_of_ble_eq_true rfl) (by decide +kernel) (fun z hz => c_X9_officeAt hz) (fun v2 => ?_)
  change Sim l G Y_X11_passed lim _ _ 8 [some (.inr (.inr x0)), some (.inl x1), some (.inl x2), some (.inl x3), none] [.inr (.inr v2)] M
  refine s_run (b := [(.astore 4, 2), (.aload 4, 2)]) 12 [some (.inr (.inr x0)), some (.inl x1), some (.inl x2), some (.inl x3), some (.inr (.inr v2))] [.inr (.inr v2)] (by decide +kernel) rfl ?_
  refine s_ifnull (tgt := 33) (off := 21) (by decide +kernel) (by decide) (fun h3 => ?_) (fun h3 => ?_)
  · skip
    refine s_run (b := [(.iconst (-1), 1)]) 34 [some (.inr (.inr x0)), some (.inl x1), some (.inl x2), some (.inl x3), some (.inr (.inr v2))] [.inl (-1 : Int32)] (by decide +kernel) rfl ?_
    exact s_iret (by decide +kernel) rfl
  · skip
    refine s_run (b := [(.aload 4, 2), (.iload_n 2, 1)]) 18 [some (.inr (.inr x0)), some (.inl x1), some (.inl x2), some (.inl x3), some (.inr (.inr v2))] [.inl x2, .inr (.inr v2)] (by decide +kernel) rfl ?_
    refine s_cV (Z := Y_X5_hasDesk) (c := 5) (vs := [.inl x2]) (st := []) (rO := fun z => some (.inl z)) (mO := fun _ => M) zk_X5_hasDesk zi_X5_hasDesk q845 rfl ⟨by decide, by decide⟩ ⟨rfl, rfl⟩ rfl rfl (Nat.le_of_ble_eq_true rfl) (by decide +kernel) (fun z hz => c_X5_hasDesk hz) (fun v4 => ?_)
    change Sim l G Y_X11_passed lim _ _ 21 [some (.inr (.inr x0)), some (.inl x1), some (.inl x2), some (.inl x3), some (.inr (.inr v2))] [.inl v4] M
    refine s_if_eq (tgt := 33) (off := 12) (by decide +kernel) (by decide) (fun h5 => ?_) (fun h5 => ?_)
    · skip
      refine s_run (b := [(.iconst (-1), 1)]) 34 [some (.inr (.inr x0)), some (.inl x1), some (.inl x2), some (.inl x3), some (.inr (.inr v2))] [.inl (-1 : Int32)] (by decide +kernel) rfl ?_
      exact s_iret (by decide +kernel) rfl
    · skip
      refine s_run (b := [(.aload 4, 2), (.iload_n 3, 1)]) 27 [some (.inr (.inr x0)), some (.inl x1), some (.inl x2), some (.inl x3), some (.inr (.inr v2))] [.inl x3, .inr (.inr v2)] (by decide +kernel) rfl ?_
      refine s_cV (Z := Y_X5_hasDesk) (c := 5) (vs := [.inl x3]) (st := []) (rO := fun z => some (.inl z)) (mO := fun _ => M) zk_X5_hasDesk zi_X5_hasDesk q845 rfl ⟨by decide, by decide⟩ ⟨rfl, rfl⟩ rfl rfl (Nat.le_of_ble_eq_true rfl) (by decide +kernel) (fun z hz => c_X5_hasDesk hz) (fun v6 => ?_)
      change Sim l G Y_X11_passed lim _ _ 30 [some (.inr (.inr x0)), some (.inl x1), some (.inl x2), some (.inl x3), some (.inr (.inr v2))] [.inl v6] M
      refine s_if_ne (tgt := 35) (off := 5) (by decide +kernel) (by decide) (fun h7 => ?_) (fun h7 => ?_)
      · skip
        refine s_run (b := [(.iconst (-1), 1)]) 34 [some (.inr (.inr x0)), some (.inl x1), some (.inl x2), some (.inl x3), some (.inr (.inr v2))] [.inl (-1 : Int32)] (by decide +kernel) rfl ?_
        exact s_iret (by decide +kernel) rfl
      · skip
        refine s_run (b := [(.aload 4, 2), (.iload_n 2, 1), (.iload_n 3, 1)]) 39 [some (.inr (.inr x0)), some (.inl x1), some (.inl x2), some (.inl x3), some (.inr (.inr v2))] [.inl x3, .inl x2, .inr (.inr v2)] (by decide +kernel) rfl ?_
        refine s_cV (Z := Y_X5_passesBetween) (c := 5) (vs := [.inl x2, .inl x3]) (st := []) (rO := fun z => some (.inl z)) (mO := fun _ => M) zk_X5_passesBetween zi_X5_passesBetween q1255 rfl ⟨by decide, by decide⟩ ⟨rfl, rfl⟩ rfl rfl (Nat.le_of_ble_eq_true rfl) (by decide +kernel) (fun z hz => c_X5_passesBetween hz) (fun v8 => ?_)
        change Sim l G Y_X11_passed lim _ _ 42 [some (.inr (.inr x0)), some (.inl x1), some (.inl x2), some (.inl x3), some (.inr (.inr v2))] [.inl v8] M
        exact s_iret (by decide +kernel) rfl
set_option maxRecDepth 20000 in
theorem c_X11_passed {l : Launch} {G : Gv} {M : Mem} {x0 : Nat} {x1 : Int32} {x2 : Int32} {x3 : Int32} {z : Int32} (h : f_X11_passed M x0 x1 x2 x3 = some z) : MetS l G Y_X11_passed [.inr (.inr x0), .inl x1, .inl x2, .inl x3] M (some (.int z)) M :=
  met_of (ls0 := [some (.inr (.inr x0)), some (.inl x1), some (.inl x2), some (.inl x3), none]) (by decide) rfl (lv_in (m := 1) rfl) (sl_le (Nat.le_of_ble_eq_true rfl)) (by rw [h]; rfl) (Or.inl ⟨rfl, rfl⟩) (S_X11_passed M x0 x1 x2 x3)
def f_X5_ringsHeard_B4 (M : Mem) (x0 : Nat) (x1 : Int32) (x2 : Int32) (x3 : Int32) : Option ((Int32 × Int32) ⊕ ((Int32))) :=
  (gI M 5 x0 1).bind fun v1 =>
  (if v1 ≤ x3 then
    some (.inr x2)
  else
    (gR M 5 x0 10).bind fun v3 =>
    (aI M 0 v3 x3).bind fun v4 =>
    (ob M 5 x0).bind fun _ => (f_X5_hears M x0 x1 v4).bind fun v5 =>
    (if v5 = 0 then
      some (.inl (x2, (x3 + (1 : Int32))))
    else
      (gI M 5 x0 3).bind fun v7 =>
      (if v7 = 0 then
        (gR M 5 x0 12).bind fun v9 =>
        (aI M 0 v9 x3).bind fun v10 =>
        some (.inl ((x2 + v10), (x3 + (1 : Int32))))
      else
        (gR M 5 x0 12).bind fun v11 =>
        (aI M 0 v11 x3).bind fun v12 =>
        (gI M 5 x0 3).bind fun v13 =>
        some (.inl ((x2 + (imin v12 v13)), (x3 + (1 : Int32)))))))
def f_X5_ringsHeard_L4 (M : Mem) (x0 : Nat) (x1 : Int32) (x2 : Int32) (x3 : Int32) : Option ((Int32)) := iter (fun s : Int32 × Int32 => f_X5_ringsHeard_B4 M x0 x1 s.1 s.2) 1048576 (x2, x3)
set_option maxRecDepth 20000 in
theorem B_X5_ringsHeard_4 {l : Launch} {G : Gv} {lim : Nat × Nat} (M : Mem) (x0 : Nat) (x1 : Int32) (x2 : Int32) (x3 : Int32) (K : (Int32 × Int32) ⊕ ((Int32)) → Option (Option Value × Mem)) (kk1 : ∀ (s2 : Int32) (s3 : Int32), SimR l G Y_X5_ringsHeard lim (K (.inl (s2, s3))) 4 [some (.inr (.inr x0)), some (.inl x1), some (.inl s2), some (.inl s3)] [] M) (kk2_0 : ∀ (s2 : Int32), SimR l G Y_X5_ringsHeard lim (K (.inr s2)) 64 [none, none, some (.inl s2), none] [] M) : Sim l G Y_X5_ringsHeard lim (f_X5_ringsHeard_B4 M x0 x1 x2 x3) K 4 [some (.inr (.inr x0)), some (.inl x1), some (.inl x2), some (.inl x3)] [] M := by
  unfold f_X5_ringsHeard_B4
  refine s_run (b := [(.iload_n 3, 1), (.aload_n 0, 1)]) 6 [some (.inr (.inr x0)), some (.inl x1), some (.inl x2), some (.inl x3)] [.inr (.inr x0), .inl x3] (by decide +kernel) rfl ?_
  refine s_gI fl_5_49 rfl (by decide +kernel) (fun v1 => ?_)
  refine s_ic_ge (tgt := 64) (off := 55) (by decide +kernel) (by decide) (fun h2 => ?_) (fun h2 => ?_)
  · skip
    exact s_lsub (ls' := [none, none, some (.inl x2), none]) ⟨rfl, trivial⟩ (kk2_0 x2)
  · skip
    refine s_run (b := [(.aload_n 0, 1), (.iload_n 1, 1), (.aload_n 0, 1)]) 15 [some (.inr (.inr x0)), some (.inl x1), some (.inl x2), some (.inl x3)] [.inr (.inr x0), .inl x1, .inr (.inr x0)] (by decide +kernel) rfl ?_
    refine s_gR fl_5_27 rfl (by decide +kernel) (fun v3 => ?_)
    refine s_run (b := [(.iload_n 3, 1)]) 19 [some (.inr (.inr x0)), some (.inl x1), some (.inl x2), some (.inl x3)] [.inl x3, .inr (.inr v3), .inl x1, .inr (.inr x0)] (by decide +kernel) rfl ?_
    refine s_ia (by decide +kernel) (fun v4 => ?_)
    refine s_cV (Z := Y_X5_hears) (c := 5) (vs := [.inl x1, .inl v4]) (st := []) (rO := fun z => some (.inl z)) (mO := fun _ => M) zk_X5_hears zi_X5_hears q1149 rfl ⟨by decide, by decide⟩ ⟨rfl, rfl⟩ rfl rfl (Nat.le_of_ble_eq_true rfl) (by decide +kernel) (fun z hz => c_X5_hears hz) (fun v5 => ?_)
    change Sim l G Y_X5_ringsHeard lim _ _ 23 [some (.inr (.inr x0)), some (.inl x1), some (.inl x2), some (.inl x3)] [.inl v5] M
    refine s_if_eq (tgt := 58) (off := 35) (by decide +kernel) (by decide) (fun h6 => ?_) (fun h6 => ?_)
    · skip
      refine s_run (b := [(.iinc 3 1, 3), (.goto (-57), 3)]) 4 [some (.inr (.inr x0)), some (.inl x1), some (.inl x2), some (.inl (x3 + (1 : Int32)))] [] (by decide +kernel) rfl ?_
      exact s_lsub (ls' := [some (.inr (.inr x0)), some (.inl x1), some (.inl x2), some (.inl (x3 + (1 : Int32)))]) ⟨rfl, ⟨rfl, ⟨rfl, ⟨rfl, trivial⟩⟩⟩⟩ (kk1 x2 (x3 + (1 : Int32)))
    · skip
      refine s_run (b := [(.iload_n 2, 1), (.aload_n 0, 1)]) 28 [some (.inr (.inr x0)), some (.inl x1), some (.inl x2), some (.inl x3)] [.inr (.inr x0), .inl x2] (by decide +kernel) rfl ?_
      refine s_gI fl_5_55 rfl (by decide +kernel) (fun v7 => ?_)
      refine s_if_ne (tgt := 43) (off := 12) (by decide +kernel) (by decide) (fun h8 => ?_) (fun h8 => ?_)
      · skip
        refine s_run (b := [(.aload_n 0, 1)]) 35 [some (.inr (.inr x0)), some (.inl x1), some (.inl x2), some (.inl x3)] [.inr (.inr x0), .inl x2] (by decide +kernel) rfl ?_
        refine s_gR fl_5_33 rfl (by decide +kernel) (fun v9 => ?_)
        refine s_run (b := [(.iload_n 3, 1)]) 39 [some (.inr (.inr x0)), some (.inl x1), some (.inl x2), some (.inl x3)] [.inl x3, .inr (.inr v9), .inl x2] (by decide +kernel) rfl ?_
        refine s_ia (by decide +kernel) (fun v10 => ?_)
        refine s_run (b := [(.goto 16, 3), (.iadd, 1), (.istore_n 2, 1), (.iinc 3 1, 3), (.goto (-57), 3)]) 4 [some (.inr (.inr x0)), some (.inl x1), some (.inl (x2 + v10)), some (.inl (x3 + (1 : Int32)))] [] (by decide +kernel) rfl ?_
        exact s_lsub (ls' := [some (.inr (.inr x0)), some (.inl x1), some (.inl (x2 + v10)), some (.inl (x3 + (1 : Int32)))]) ⟨rfl, ⟨rfl, ⟨rfl, ⟨rfl, trivial⟩⟩⟩⟩ (kk1 (x2 + v10) (x3 + (1 : Int32)))
      · skip
        refine s_run (b := [(.aload_n 0, 1)]) 44 [some (.inr (.inr x0)), some (.inl x1), some (.inl x2), some (.inl x3)] [.inr (.inr x0), .inl x2] (by decide +kernel) rfl ?_
        refine s_gR fl_5_33 rfl (by decide +kernel) (fun v11 => ?_)
        refine s_run (b := [(.iload_n 3, 1)]) 48 [some (.inr (.inr x0)), some (.inl x1), some (.inl x2), some (.inl x3)] [.inl x3, .inr (.inr v11), .inl x2] (by decide +kernel) rfl ?_
        refine s_ia (by decide +kernel) (fun v12 => ?_)
        refine s_run (b := [(.aload_n 0, 1)]) 50 [some (.inr (.inr x0)), some (.inl x1), some (.inl x2), some (.inl x3)] [.inr (.inr x0), .inl v12, .inl x2] (by decide +kernel) rfl ?_
        refine s_gI fl_5_55 rfl (by decide +kernel) (fun v13 => ?_)
        refine s_imin q1150 ⟨Nat.le_of_ble_eq_true rfl, Nat.le_of_ble_eq_true rfl⟩ (by decide +kernel) ?_
        change Sim l G Y_X5_ringsHeard lim _ _ 56 [some (.inr (.inr x0)), some (.inl x1), some (.inl x2), some (.inl x3)] [.inl (imin v12 v13), .inl x2] M
        refine s_run (b := [(.iadd, 1), (.istore_n 2, 1), (.iinc 3 1, 3), (.goto (-57), 3)]) 4 [some (.inr (.inr x0)), some (.inl x1), some (.inl (x2 + (imin v12 v13))), some (.inl (x3 + (1 : Int32)))] [] (by decide +kernel) rfl ?_
        exact s_lsub (ls' := [some (.inr (.inr x0)), some (.inl x1), some (.inl (x2 + (imin v12 v13))), some (.inl (x3 + (1 : Int32)))]) ⟨rfl, ⟨rfl, ⟨rfl, ⟨rfl, trivial⟩⟩⟩⟩ (kk1 (x2 + (imin v12 v13)) (x3 + (1 : Int32)))
set_option maxRecDepth 20000 in
theorem L_X5_ringsHeard_4 {l : Launch} {G : Gv} {lim : Nat × Nat} (M : Mem) (x0 : Nat) (x1 : Int32) (x2 : Int32) (x3 : Int32) (K : ((Int32)) → Option (Option Value × Mem)) (kk2_0 : ∀ r : Int32, SimR l G Y_X5_ringsHeard lim (K r) 64 [none, none, some (.inl r), none] [] M) : Sim l G Y_X5_ringsHeard lim (f_X5_ringsHeard_L4 M x0 x1 x2 x3) K 4 [some (.inr (.inr x0)), some (.inl x1), some (.inl x2), some (.inl x3)] [] M :=
  s_iter (f := fun s : Int32 × Int32 => f_X5_ringsHeard_B4 M x0 x1 s.1 s.2) (hd := 4) (cl := fun s => [some (.inr (.inr x0)), some (.inl x1), some (.inl s.1), some (.inl s.2)]) (cm := fun s => M) (xp := fun _ => 64) (xl := fun r => [none, none, some (.inl r), none]) (xm := fun r => M) (fun s K h1 h2 => B_X5_ringsHeard_4 M x0 x1 s.1 s.2 K (fun a2 a3 => h1 (a2, a3)) (fun a2 => h2 a2)) 1048576 (x2, x3) K kk2_0
def f_X5_ringsHeard (M : Mem) (x0 : Nat) (x1 : Int32) : Option (Int32) :=
  (f_X5_ringsHeard_L4 M x0 x1 (0 : Int32) (0 : Int32)).bind fun r1 =>
  some r1
set_option maxRecDepth 20000 in
theorem S_X5_ringsHeard {l : Launch} {G : Gv} {lim : Nat × Nat} (M : Mem) (x0 : Nat) (x1 : Int32) : Sim l G Y_X5_ringsHeard lim (f_X5_ringsHeard M x0 x1) (fun z => some (some (.int z), M)) 0 [some (.inr (.inr x0)), some (.inl x1), none, none] [] M := by
  unfold f_X5_ringsHeard
  refine s_run (b := [(.iconst 0, 1), (.istore_n 2, 1), (.iconst 0, 1), (.istore_n 3, 1)]) 4 [some (.inr (.inr x0)), some (.inl x1), some (.inl (0 : Int32)), some (.inl (0 : Int32))] [] (by decide +kernel) rfl ?_
  refine s_lsub (ls' := [some (.inr (.inr x0)), some (.inl x1), some (.inl (0 : Int32)), some (.inl (0 : Int32))]) ⟨rfl, ⟨rfl, ⟨rfl, ⟨rfl, trivial⟩⟩⟩⟩ ?_
  refine sim_bind (L_X5_ringsHeard_4 M x0 x1 (0 : Int32) (0 : Int32) _ (fun r1 => ?_))
  change Sim l G Y_X5_ringsHeard lim _ _ 64 [none, none, some (.inl r1), none] [] M
  refine s_run (b := [(.iload_n 2, 1)]) 65 [none, none, some (.inl r1), none] [.inl r1] (by decide +kernel) rfl ?_
  exact s_iret (by decide +kernel) rfl
set_option maxRecDepth 20000 in
theorem c_X5_ringsHeard {l : Launch} {G : Gv} {M : Mem} {x0 : Nat} {x1 : Int32} {z : Int32} (h : f_X5_ringsHeard M x0 x1 = some z) : MetS l G Y_X5_ringsHeard [.inr (.inr x0), .inl x1] M (some (.int z)) M :=
  met_of (ls0 := [some (.inr (.inr x0)), some (.inl x1), none, none]) (by decide) rfl (lv_in (m := 2) rfl) (sl_le (Nat.le_of_ble_eq_true rfl)) (by rw [h]; rfl) (Or.inl ⟨rfl, rfl⟩) (S_X5_ringsHeard M x0 x1)
def f_X11_quiet (M : Mem) (x0 : Nat) (x1 : Int32) (x2 : Int32) : Option (Int32) :=
  (gR M 11 x0 0).bind fun v1 =>
  (ob M 9 v1).bind fun _ => (f_X9_officeAt M v1 x1).bind fun v2 =>
  (if v2 = 0 then
    some (-1 : Int32)
  else
    (ob M 5 v2).bind fun _ => (f_X5_hasDesk M v2 x2).bind fun v4 =>
    (if v4 = 0 then
      some (-1 : Int32)
    else
      (ob M 5 v2).bind fun _ => (f_X5_ringsHeard M v2 x2).bind fun v6 =>
      some v6))
set_option maxRecDepth 20000 in
theorem S_X11_quiet {l : Launch} {G : Gv} {lim : Nat × Nat} (M : Mem) (x0 : Nat) (x1 : Int32) (x2 : Int32) : Sim l G Y_X11_quiet lim (f_X11_quiet M x0 x1 x2) (fun z => some (some (.int z), M)) 0 [some (.inr (.inr x0)), some (.inl x1), some (.inl x2), none] [] M := by
  unfold f_X11_quiet
  refine s_run (b := [(.aload_n 0, 1)]) 1 [some (.inr (.inr x0)), some (.inl x1), some (.inl x2), none] [.inr (.inr x0)] (by decide +kernel) rfl ?_
  refine s_gR fl_11_10 rfl (by decide +kernel) (fun v1 => ?_)
  refine s_run (b := [(.iload_n 1, 1)]) 5 [some (.inr (.inr x0)), some (.inl x1), some (.inl x2), none] [.inl x1, .inr (.inr v1)] (by decide +kernel) rfl ?_
  refine s_cV (Z := Y_X9_officeAt) (c := 9) (vs := [.inl x1]) (st := []) (rO := fun z => some (.inr (.inr z))) (mO := fun _ => M) zk_X9_officeAt zi_X9_officeAt q716 rfl ⟨by decide, by decide⟩ ⟨rfl, rfl⟩ rfl rfl (Nat.le_of_ble_eq_true rfl) (by decide +kernel) (fun z hz => c_X9_officeAt hz) (fun v2 => ?_)
  change Sim l G Y_X11_quiet lim _ _ 8 [some (.inr (.inr x0)), some (.inl x1), some (.inl x2), none] [.inr (.inr v2)] M
  refine s_run (b := [(.astore_n 3, 1), (.aload_n 3, 1)]) 10 [some (.inr (.inr x0)), some (.inl x1), some (.inl x2), some (.inr (.inr v2))] [.inr (.inr v2)] (by decide +kernel) rfl ?_
  refine s_ifnull (tgt := 21) (off := 11) (by decide +kernel) (by decide) (fun h3 => ?_) (fun h3 => ?_)
  · skip
    refine s_run (b := [(.iconst (-1), 1), (.goto 8, 3)]) 30 [some (.inr (.inr x0)), some (.inl x1), some (.inl x2), some (.inr (.inr v2))] [.inl (-1 : Int32)] (by decide +kernel) rfl ?_
    exact s_iret (by decide +kernel) rfl
  · skip
    refine s_run (b := [(.aload_n 3, 1), (.iload_n 2, 1)]) 15 [some (.inr (.inr x0)), some (.inl x1), some (.inl x2), some (.inr (.inr v2))] [.inl x2, .inr (.inr v2)] (by decide +kernel) rfl ?_
    refine s_cV (Z := Y_X5_hasDesk) (c := 5) (vs := [.inl x2]) (st := []) (rO := fun z => some (.inl z)) (mO := fun _ => M) zk_X5_hasDesk zi_X5_hasDesk q845 rfl ⟨by decide, by decide⟩ ⟨rfl, rfl⟩ rfl rfl (Nat.le_of_ble_eq_true rfl) (by decide +kernel) (fun z hz => c_X5_hasDesk hz) (fun v4 => ?_)
    change Sim l G Y_X11_quiet lim _ _ 18 [some (.inr (.inr x0)), some (.inl x1), some (.inl x2), some (.inr (.inr v2))] [.inl v4] M
    refine s_if_ne (tgt := 25) (off := 7) (by decide +kernel) (by decide) (fun h5 => ?_) (fun h5 => ?_)
    · skip
      refine s_run (b := [(.iconst (-1), 1), (.goto 8, 3)]) 30 [some (.inr (.inr x0)), some (.inl x1), some (.inl x2), some (.inr (.inr v2))] [.inl (-1 : Int32)] (by decide +kernel) rfl ?_
      exact s_iret (by decide +kernel) rfl
    · skip
      refine s_run (b := [(.aload_n 3, 1), (.iload_n 2, 1)]) 27 [some (.inr (.inr x0)), some (.inl x1), some (.inl x2), some (.inr (.inr v2))] [.inl x2, .inr (.inr v2)] (by decide +kernel) rfl ?_
      refine s_cV (Z := Y_X5_ringsHeard) (c := 5) (vs := [.inl x2]) (st := []) (rO := fun z => some (.inl z)) (mO := fun _ => M) zk_X5_ringsHeard zi_X5_ringsHeard q1145 rfl ⟨by decide, by decide⟩ ⟨rfl, rfl⟩ rfl rfl (Nat.le_of_ble_eq_true rfl) (by decide +kernel) (fun z hz => c_X5_ringsHeard hz) (fun v6 => ?_)
      change Sim l G Y_X11_quiet lim _ _ 30 [some (.inr (.inr x0)), some (.inl x1), some (.inl x2), some (.inr (.inr v2))] [.inl v6] M
      exact s_iret (by decide +kernel) rfl
set_option maxRecDepth 20000 in
theorem c_X11_quiet {l : Launch} {G : Gv} {M : Mem} {x0 : Nat} {x1 : Int32} {x2 : Int32} {z : Int32} (h : f_X11_quiet M x0 x1 x2 = some z) : MetS l G Y_X11_quiet [.inr (.inr x0), .inl x1, .inl x2] M (some (.int z)) M :=
  met_of (ls0 := [some (.inr (.inr x0)), some (.inl x1), some (.inl x2), none]) (by decide) rfl (lv_in (m := 1) rfl) (sl_le (Nat.le_of_ble_eq_true rfl)) (by rw [h]; rfl) (Or.inl ⟨rfl, rfl⟩) (S_X11_quiet M x0 x1 x2)
def f_X10_rowsFrom_B5 (M : Mem) (x0 : Nat) (x1 : Int32) (x3 : Int32) (x4 : Int32) : Option ((Int32 × Int32) ⊕ ((Int32))) :=
  (gI M 10 x0 0).bind fun v1 =>
  (if v1 ≤ x4 then
    some (.inr x3)
  else
    (gR M 10 x0 5).bind fun v3 =>
    (aI M 0 v3 ((x1 * (8 : Int32)) + x4)).bind fun v4 =>
    (f_J6_bitCount_0f7a4 M v4).bind fun v5 =>
    some (.inl ((x3 * v5), (x4 + (1 : Int32)))))
def f_X10_rowsFrom_L5 (M : Mem) (x0 : Nat) (x1 : Int32) (x3 : Int32) (x4 : Int32) : Option ((Int32)) := iter (fun s : Int32 × Int32 => f_X10_rowsFrom_B5 M x0 x1 s.1 s.2) 1048576 (x3, x4)
set_option maxRecDepth 20000 in
theorem B_X10_rowsFrom_5 {l : Launch} {G : Gv} {lim : Nat × Nat} (M : Mem) (x0 : Nat) (x1 : Int32) (x3 : Int32) (x4 : Int32) (K : (Int32 × Int32) ⊕ ((Int32)) → Option (Option Value × Mem)) (kk1 : ∀ (s3 : Int32) (s4 : Int32), SimR l G Y_X10_rowsFrom lim (K (.inl (s3, s4))) 5 [some (.inr (.inr x0)), some (.inl x1), none, some (.inl s3), some (.inl s4)] [] M) (kk2_0 : ∀ (s3 : Int32), SimR l G Y_X10_rowsFrom lim (K (.inr s3)) 38 [none, none, none, some (.inl s3), none] [] M) : Sim l G Y_X10_rowsFrom lim (f_X10_rowsFrom_B5 M x0 x1 x3 x4) K 5 [some (.inr (.inr x0)), some (.inl x1), none, some (.inl x3), some (.inl x4)] [] M := by
  unfold f_X10_rowsFrom_B5
  refine s_run (b := [(.iload 4, 2), (.aload_n 0, 1)]) 8 [some (.inr (.inr x0)), some (.inl x1), none, some (.inl x3), some (.inl x4)] [.inr (.inr x0), .inl x4] (by decide +kernel) rfl ?_
  refine s_gI fl_10_24 rfl (by decide +kernel) (fun v1 => ?_)
  refine s_ic_ge (tgt := 38) (off := 27) (by decide +kernel) (by decide) (fun h2 => ?_) (fun h2 => ?_)
  · skip
    exact s_lsub (ls' := [none, none, none, some (.inl x3), none]) ⟨rfl, trivial⟩ (kk2_0 x3)
  · skip
    refine s_run (b := [(.iload_n 3, 1), (.aload_n 0, 1)]) 16 [some (.inr (.inr x0)), some (.inl x1), none, some (.inl x3), some (.inl x4)] [.inr (.inr x0), .inl x3] (by decide +kernel) rfl ?_
    refine s_gR fl_10_21 rfl (by decide +kernel) (fun v3 => ?_)
    refine s_run (b := [(.iload_n 1, 1), (.bipush 8, 2), (.imul, 1), (.iload 4, 2), (.iadd, 1)]) 26 [some (.inr (.inr x0)), some (.inl x1), none, some (.inl x3), some (.inl x4)] [.inl ((x1 * (8 : Int32)) + x4), .inr (.inr v3), .inl x3] (by decide +kernel) rfl ?_
    refine s_ia (by decide +kernel) (fun v4 => ?_)
    refine s_cS (Z := Y_J6_bitCount_0f7a4) (vs := [.inl v4]) (st := [.inl x3]) (rO := fun z => some (.inl z)) (mO := fun _ => M) zk_J6_bitCount_0f7a4 q819 q947 ⟨by decide, by decide⟩ ⟨rfl, rfl⟩ rfl rfl (Nat.le_of_ble_eq_true rfl) (by decide +kernel) (fun z hz => c_J6_bitCount_0f7a4 hz) (fun v5 => ?_)
    change Sim l G Y_X10_rowsFrom lim _ _ 30 [some (.inr (.inr x0)), some (.inl x1), none, some (.inl x3), some (.inl x4)] [.inl v5, .inl x3] M
    refine s_run (b := [(.imul, 1), (.istore_n 3, 1), (.iinc 4 1, 3), (.goto (-30), 3)]) 5 [some (.inr (.inr x0)), some (.inl x1), none, some (.inl (x3 * v5)), some (.inl (x4 + (1 : Int32)))] [] (by decide +kernel) rfl ?_
    exact s_lsub (ls' := [some (.inr (.inr x0)), some (.inl x1), none, some (.inl (x3 * v5)), some (.inl (x4 + (1 : Int32)))]) ⟨rfl, ⟨rfl, ⟨rfl, ⟨rfl, trivial⟩⟩⟩⟩ (kk1 (x3 * v5) (x4 + (1 : Int32)))
set_option maxRecDepth 20000 in
theorem L_X10_rowsFrom_5 {l : Launch} {G : Gv} {lim : Nat × Nat} (M : Mem) (x0 : Nat) (x1 : Int32) (x3 : Int32) (x4 : Int32) (K : ((Int32)) → Option (Option Value × Mem)) (kk2_0 : ∀ r : Int32, SimR l G Y_X10_rowsFrom lim (K r) 38 [none, none, none, some (.inl r), none] [] M) : Sim l G Y_X10_rowsFrom lim (f_X10_rowsFrom_L5 M x0 x1 x3 x4) K 5 [some (.inr (.inr x0)), some (.inl x1), none, some (.inl x3), some (.inl x4)] [] M :=
  s_iter (f := fun s : Int32 × Int32 => f_X10_rowsFrom_B5 M x0 x1 s.1 s.2) (hd := 5) (cl := fun s => [some (.inr (.inr x0)), some (.inl x1), none, some (.inl s.1), some (.inl s.2)]) (cm := fun s => M) (xp := fun _ => 38) (xl := fun r => [none, none, none, some (.inl r), none]) (xm := fun r => M) (fun s K h1 h2 => B_X10_rowsFrom_5 M x0 x1 s.1 s.2 K (fun a3 a4 => h1 (a3, a4)) (fun a3 => h2 a3)) 1048576 (x3, x4) K kk2_0
def f_X10_rowsFrom (M : Mem) (x0 : Nat) (x1 : Int32) (x2 : Int32) : Option (Int32) :=
  (f_X10_rowsFrom_L5 M x0 x1 (1 : Int32) x2).bind fun r1 =>
  some r1
set_option maxRecDepth 20000 in
theorem S_X10_rowsFrom {l : Launch} {G : Gv} {lim : Nat × Nat} (M : Mem) (x0 : Nat) (x1 : Int32) (x2 : Int32) : Sim l G Y_X10_rowsFrom lim (f_X10_rowsFrom M x0 x1 x2) (fun z => some (some (.int z), M)) 0 [some (.inr (.inr x0)), some (.inl x1), some (.inl x2), none, none] [] M := by
  unfold f_X10_rowsFrom
  refine s_run (b := [(.iconst 1, 1), (.istore_n 3, 1), (.iload_n 2, 1), (.istore 4, 2)]) 5 [some (.inr (.inr x0)), some (.inl x1), some (.inl x2), some (.inl (1 : Int32)), some (.inl x2)] [] (by decide +kernel) rfl ?_
  refine s_lsub (ls' := [some (.inr (.inr x0)), some (.inl x1), none, some (.inl (1 : Int32)), some (.inl x2)]) ⟨rfl, ⟨rfl, ⟨rfl, ⟨rfl, trivial⟩⟩⟩⟩ ?_
  refine sim_bind (L_X10_rowsFrom_5 M x0 x1 (1 : Int32) x2 _ (fun r1 => ?_))
  change Sim l G Y_X10_rowsFrom lim _ _ 38 [none, none, none, some (.inl r1), none] [] M
  refine s_run (b := [(.iload_n 3, 1)]) 39 [none, none, none, some (.inl r1), none] [.inl r1] (by decide +kernel) rfl ?_
  exact s_iret (by decide +kernel) rfl
set_option maxRecDepth 20000 in
theorem c_X10_rowsFrom {l : Launch} {G : Gv} {M : Mem} {x0 : Nat} {x1 : Int32} {x2 : Int32} {z : Int32} (h : f_X10_rowsFrom M x0 x1 x2 = some z) : MetS l G Y_X10_rowsFrom [.inr (.inr x0), .inl x1, .inl x2] M (some (.int z)) M :=
  met_of (ls0 := [some (.inr (.inr x0)), some (.inl x1), some (.inl x2), none, none]) (by decide) rfl (lv_in (m := 2) rfl) (sl_le (Nat.le_of_ble_eq_true rfl)) (by rw [h]; rfl) (Or.inl ⟨rfl, rfl⟩) (S_X10_rowsFrom M x0 x1 x2)
def f_X10_howMany_B4 (M : Mem) (x0 : Nat) (x1 : Int32) (x2 : Int32) : Option ((Int32 × Int32) ⊕ ((Int32))) :=
  (gI M 10 x0 4).bind fun v1 =>
  (if v1 ≤ x2 then
    some (.inr x1)
  else
    (ob M 10 x0).bind fun _ => (f_X10_rowsFrom M x0 x2 (0 : Int32)).bind fun v3 =>
    some (.inl ((x1 + v3), (x2 + (1 : Int32)))))
def f_X10_howMany_L4 (M : Mem) (x0 : Nat) (x1 : Int32) (x2 : Int32) : Option ((Int32)) := iter (fun s : Int32 × Int32 => f_X10_howMany_B4 M x0 s.1 s.2) 1048576 (x1, x2)
set_option maxRecDepth 20000 in
theorem B_X10_howMany_4 {l : Launch} {G : Gv} {lim : Nat × Nat} (M : Mem) (x0 : Nat) (x1 : Int32) (x2 : Int32) (K : (Int32 × Int32) ⊕ ((Int32)) → Option (Option Value × Mem)) (kk1 : ∀ (s1 : Int32) (s2 : Int32), SimR l G Y_X10_howMany lim (K (.inl (s1, s2))) 4 [some (.inr (.inr x0)), some (.inl s1), some (.inl s2)] [] M) (kk2_0 : ∀ (s1 : Int32), SimR l G Y_X10_howMany lim (K (.inr s1)) 27 [none, some (.inl s1), none] [] M) : Sim l G Y_X10_howMany lim (f_X10_howMany_B4 M x0 x1 x2) K 4 [some (.inr (.inr x0)), some (.inl x1), some (.inl x2)] [] M := by
  unfold f_X10_howMany_B4
  refine s_run (b := [(.iload_n 2, 1), (.aload_n 0, 1)]) 6 [some (.inr (.inr x0)), some (.inl x1), some (.inl x2)] [.inr (.inr x0), .inl x2] (by decide +kernel) rfl ?_
  refine s_gI fl_10_53 rfl (by decide +kernel) (fun v1 => ?_)
  refine s_ic_ge (tgt := 27) (off := 18) (by decide +kernel) (by decide) (fun h2 => ?_) (fun h2 => ?_)
  · skip
    exact s_lsub (ls' := [none, some (.inl x1), none]) ⟨rfl, trivial⟩ (kk2_0 x1)
  · skip
    refine s_run (b := [(.iload_n 1, 1), (.aload_n 0, 1), (.iload_n 2, 1), (.iconst 0, 1)]) 16 [some (.inr (.inr x0)), some (.inl x1), some (.inl x2)] [.inl (0 : Int32), .inl x2, .inr (.inr x0), .inl x1] (by decide +kernel) rfl ?_
    refine s_cV (Z := Y_X10_rowsFrom) (c := 10) (vs := [.inl x2, .inl (0 : Int32)]) (st := [.inl x1]) (rO := fun z => some (.inl z)) (mO := fun _ => M) zk_X10_rowsFrom zi_X10_rowsFrom q943 rfl ⟨by decide, by decide⟩ ⟨rfl, rfl⟩ rfl rfl (Nat.le_of_ble_eq_true rfl) (by decide +kernel) (fun z hz => c_X10_rowsFrom hz) (fun v3 => ?_)
    change Sim l G Y_X10_howMany lim _ _ 19 [some (.inr (.inr x0)), some (.inl x1), some (.inl x2)] [.inl v3, .inl x1] M
    refine s_run (b := [(.iadd, 1), (.istore_n 1, 1), (.iinc 2 1, 3), (.goto (-20), 3)]) 4 [some (.inr (.inr x0)), some (.inl (x1 + v3)), some (.inl (x2 + (1 : Int32)))] [] (by decide +kernel) rfl ?_
    exact s_lsub (ls' := [some (.inr (.inr x0)), some (.inl (x1 + v3)), some (.inl (x2 + (1 : Int32)))]) ⟨rfl, ⟨rfl, ⟨rfl, trivial⟩⟩⟩ (kk1 (x1 + v3) (x2 + (1 : Int32)))
set_option maxRecDepth 20000 in
theorem L_X10_howMany_4 {l : Launch} {G : Gv} {lim : Nat × Nat} (M : Mem) (x0 : Nat) (x1 : Int32) (x2 : Int32) (K : ((Int32)) → Option (Option Value × Mem)) (kk2_0 : ∀ r : Int32, SimR l G Y_X10_howMany lim (K r) 27 [none, some (.inl r), none] [] M) : Sim l G Y_X10_howMany lim (f_X10_howMany_L4 M x0 x1 x2) K 4 [some (.inr (.inr x0)), some (.inl x1), some (.inl x2)] [] M :=
  s_iter (f := fun s : Int32 × Int32 => f_X10_howMany_B4 M x0 s.1 s.2) (hd := 4) (cl := fun s => [some (.inr (.inr x0)), some (.inl s.1), some (.inl s.2)]) (cm := fun s => M) (xp := fun _ => 27) (xl := fun r => [none, some (.inl r), none]) (xm := fun r => M) (fun s K h1 h2 => B_X10_howMany_4 M x0 s.1 s.2 K (fun a1 a2 => h1 (a1, a2)) (fun a1 => h2 a1)) 1048576 (x1, x2) K kk2_0
def f_X10_howMany (M : Mem) (x0 : Nat) : Option (Int32) :=
  (f_X10_howMany_L4 M x0 (0 : Int32) (0 : Int32)).bind fun r1 =>
  some r1
set_option maxRecDepth 20000 in
theorem S_X10_howMany {l : Launch} {G : Gv} {lim : Nat × Nat} (M : Mem) (x0 : Nat) : Sim l G Y_X10_howMany lim (f_X10_howMany M x0) (fun z => some (some (.int z), M)) 0 [some (.inr (.inr x0)), none, none] [] M := by
  unfold f_X10_howMany
  refine s_run (b := [(.iconst 0, 1), (.istore_n 1, 1), (.iconst 0, 1), (.istore_n 2, 1)]) 4 [some (.inr (.inr x0)), some (.inl (0 : Int32)), some (.inl (0 : Int32))] [] (by decide +kernel) rfl ?_
  refine s_lsub (ls' := [some (.inr (.inr x0)), some (.inl (0 : Int32)), some (.inl (0 : Int32))]) ⟨rfl, ⟨rfl, ⟨rfl, trivial⟩⟩⟩ ?_
  refine sim_bind (L_X10_howMany_4 M x0 (0 : Int32) (0 : Int32) _ (fun r1 => ?_))
  change Sim l G Y_X10_howMany lim _ _ 27 [none, some (.inl r1), none] [] M
  refine s_run (b := [(.iload_n 1, 1)]) 28 [none, some (.inl r1), none] [.inl r1] (by decide +kernel) rfl ?_
  exact s_iret (by decide +kernel) rfl
set_option maxRecDepth 20000 in
theorem c_X10_howMany {l : Launch} {G : Gv} {M : Mem} {x0 : Nat} {z : Int32} (h : f_X10_howMany M x0 = some z) : MetS l G Y_X10_howMany [.inr (.inr x0)] M (some (.int z)) M :=
  met_of (ls0 := [some (.inr (.inr x0)), none, none]) (by decide) rfl (lv_in (m := 2) rfl) (sl_le (Nat.le_of_ble_eq_true rfl)) (by rw [h]; rfl) (Or.inl ⟨rfl, rfl⟩) (S_X10_howMany M x0)
def f_X10_familiesSaying_J39 (M : Mem) (x0 : Nat) (x1 : Int32) (x2 : Int32) (x3 : Int32) (x4 : Int32) (x5 : Int32) (y0 : Int32) : Option ((Int32 × Int32) ⊕ ((Int32))) :=
  (if y0 = 0 then
    some (.inl (x4, (x5 + (1 : Int32))))
  else
    (if ((x1 >>> (x5 &&& 31)) &&& (1 : Int32)) = 0 then
      some (.inl (x4, (x5 + (1 : Int32))))
    else
      some (.inl ((x4 ||| ((1 : Int32) <<< (x5 &&& 31))), (x5 + (1 : Int32))))))
set_option maxRecDepth 20000 in
theorem J_X10_familiesSaying_39 {l : Launch} {G : Gv} {lim : Nat × Nat} (M : Mem) (x0 : Nat) (x1 : Int32) (x2 : Int32) (x3 : Int32) (x4 : Int32) (x5 : Int32) (y0 : Int32) (K : (Int32 × Int32) ⊕ ((Int32)) → Option (Option Value × Mem)) (kk1 : ∀ (s4 : Int32) (s5 : Int32), SimR l G Y_X10_familiesSaying lim (K (.inl (s4, s5))) 6 [some (.inr (.inr x0)), some (.inl x1), some (.inl x2), some (.inl x3), some (.inl s4), some (.inl s5), none] [] M) (kk2_0 : ∀ (s4 : Int32), SimR l G Y_X10_familiesSaying lim (K (.inr s4)) 70 [none, none, none, none, some (.inl s4), none, none] [] M) : Sim l G Y_X10_familiesSaying lim (f_X10_familiesSaying_J39 M x0 x1 x2 x3 x4 x5 y0) K 39 [some (.inr (.inr x0)), some (.inl x1), some (.inl x2), some (.inl x3), some (.inl x4), some (.inl x5), none] [.inl y0] M := by
  unfold f_X10_familiesSaying_J39
  refine s_run (b := [(.istore 6, 2), (.iload 6, 2)]) 43 [some (.inr (.inr x0)), some (.inl x1), some (.inl x2), some (.inl x3), some (.inl x4), some (.inl x5), some (.inl y0)] [.inl y0] (by decide +kernel) rfl ?_
  refine s_if_eq (tgt := 64) (off := 21) (by decide +kernel) (by decide) (fun h1 => ?_) (fun h1 => ?_)
  · skip
    refine s_run (b := [(.iinc 5 1, 3), (.goto (-61), 3)]) 6 [some (.inr (.inr x0)), some (.inl x1), some (.inl x2), some (.inl x3), some (.inl x4), some (.inl (x5 + (1 : Int32))), some (.inl y0)] [] (by decide +kernel) rfl ?_
    exact s_lsub (ls' := [some (.inr (.inr x0)), some (.inl x1), some (.inl x2), some (.inl x3), some (.inl x4), some (.inl (x5 + (1 : Int32))), none]) ⟨rfl, ⟨rfl, ⟨rfl, ⟨rfl, ⟨rfl, ⟨rfl, trivial⟩⟩⟩⟩⟩⟩ (kk1 x4 (x5 + (1 : Int32)))
  · skip
    refine s_run (b := [(.iload_n 1, 1), (.iload 5, 2), (.ishr, 1), (.iconst 1, 1), (.iand, 1)]) 52 [some (.inr (.inr x0)), some (.inl x1), some (.inl x2), some (.inl x3), some (.inl x4), some (.inl x5), some (.inl y0)] [.inl ((x1 >>> (x5 &&& 31)) &&& (1 : Int32))] (by decide +kernel) rfl ?_
    refine s_if_eq (tgt := 64) (off := 12) (by decide +kernel) (by decide) (fun h2 => ?_) (fun h2 => ?_)
    · skip
      refine s_run (b := [(.iinc 5 1, 3), (.goto (-61), 3)]) 6 [some (.inr (.inr x0)), some (.inl x1), some (.inl x2), some (.inl x3), some (.inl x4), some (.inl (x5 + (1 : Int32))), some (.inl y0)] [] (by decide +kernel) rfl ?_
      exact s_lsub (ls' := [some (.inr (.inr x0)), some (.inl x1), some (.inl x2), some (.inl x3), some (.inl x4), some (.inl (x5 + (1 : Int32))), none]) ⟨rfl, ⟨rfl, ⟨rfl, ⟨rfl, ⟨rfl, ⟨rfl, trivial⟩⟩⟩⟩⟩⟩ (kk1 x4 (x5 + (1 : Int32)))
    · skip
      refine s_run (b := [(.iload 4, 2), (.iconst 1, 1), (.iload 5, 2), (.ishl, 1), (.ior, 1), (.istore 4, 2), (.iinc 5 1, 3), (.goto (-61), 3)]) 6 [some (.inr (.inr x0)), some (.inl x1), some (.inl x2), some (.inl x3), some (.inl (x4 ||| ((1 : Int32) <<< (x5 &&& 31)))), some (.inl (x5 + (1 : Int32))), some (.inl y0)] [] (by decide +kernel) rfl ?_
      exact s_lsub (ls' := [some (.inr (.inr x0)), some (.inl x1), some (.inl x2), some (.inl x3), some (.inl (x4 ||| ((1 : Int32) <<< (x5 &&& 31)))), some (.inl (x5 + (1 : Int32))), none]) ⟨rfl, ⟨rfl, ⟨rfl, ⟨rfl, ⟨rfl, ⟨rfl, trivial⟩⟩⟩⟩⟩⟩ (kk1 (x4 ||| ((1 : Int32) <<< (x5 &&& 31))) (x5 + (1 : Int32)))
def f_X10_familiesSaying_B6 (M : Mem) (x0 : Nat) (x1 : Int32) (x2 : Int32) (x3 : Int32) (x4 : Int32) (x5 : Int32) : Option ((Int32 × Int32) ⊕ ((Int32))) :=
  (gI M 10 x0 4).bind fun v1 =>
  (if v1 ≤ x5 then
    some (.inr x4)
  else
    (gR M 10 x0 5).bind fun v3 =>
    (aI M 0 v3 ((x5 * (8 : Int32)) + x2)).bind fun v4 =>
    (if ((v4 >>> (x3 &&& 31)) &&& (1 : Int32)) = 0 then
      f_X10_familiesSaying_J39 M x0 x1 x2 x3 x4 x5 (0 : Int32)
    else
      f_X10_familiesSaying_J39 M x0 x1 x2 x3 x4 x5 (1 : Int32)))
def f_X10_familiesSaying_L6 (M : Mem) (x0 : Nat) (x1 : Int32) (x2 : Int32) (x3 : Int32) (x4 : Int32) (x5 : Int32) : Option ((Int32)) := iter (fun s : Int32 × Int32 => f_X10_familiesSaying_B6 M x0 x1 x2 x3 s.1 s.2) 1048576 (x4, x5)
set_option maxRecDepth 20000 in
theorem B_X10_familiesSaying_6 {l : Launch} {G : Gv} {lim : Nat × Nat} (M : Mem) (x0 : Nat) (x1 : Int32) (x2 : Int32) (x3 : Int32) (x4 : Int32) (x5 : Int32) (K : (Int32 × Int32) ⊕ ((Int32)) → Option (Option Value × Mem)) (kk1 : ∀ (s4 : Int32) (s5 : Int32), SimR l G Y_X10_familiesSaying lim (K (.inl (s4, s5))) 6 [some (.inr (.inr x0)), some (.inl x1), some (.inl x2), some (.inl x3), some (.inl s4), some (.inl s5), none] [] M) (kk2_0 : ∀ (s4 : Int32), SimR l G Y_X10_familiesSaying lim (K (.inr s4)) 70 [none, none, none, none, some (.inl s4), none, none] [] M) : Sim l G Y_X10_familiesSaying lim (f_X10_familiesSaying_B6 M x0 x1 x2 x3 x4 x5) K 6 [some (.inr (.inr x0)), some (.inl x1), some (.inl x2), some (.inl x3), some (.inl x4), some (.inl x5), none] [] M := by
  unfold f_X10_familiesSaying_B6
  refine s_run (b := [(.iload 5, 2), (.aload_n 0, 1)]) 9 [some (.inr (.inr x0)), some (.inl x1), some (.inl x2), some (.inl x3), some (.inl x4), some (.inl x5), none] [.inr (.inr x0), .inl x5] (by decide +kernel) rfl ?_
  refine s_gI fl_10_53 rfl (by decide +kernel) (fun v1 => ?_)
  refine s_ic_ge (tgt := 70) (off := 58) (by decide +kernel) (by decide) (fun h2 => ?_) (fun h2 => ?_)
  · skip
    exact s_lsub (ls' := [none, none, none, none, some (.inl x4), none, none]) ⟨rfl, trivial⟩ (kk2_0 x4)
  · skip
    refine s_run (b := [(.aload_n 0, 1)]) 16 [some (.inr (.inr x0)), some (.inl x1), some (.inl x2), some (.inl x3), some (.inl x4), some (.inl x5), none] [.inr (.inr x0)] (by decide +kernel) rfl ?_
    refine s_gR fl_10_21 rfl (by decide +kernel) (fun v3 => ?_)
    refine s_run (b := [(.iload 5, 2), (.bipush 8, 2), (.imul, 1), (.iload_n 2, 1), (.iadd, 1)]) 26 [some (.inr (.inr x0)), some (.inl x1), some (.inl x2), some (.inl x3), some (.inl x4), some (.inl x5), none] [.inl ((x5 * (8 : Int32)) + x2), .inr (.inr v3)] (by decide +kernel) rfl ?_
    refine s_ia (by decide +kernel) (fun v4 => ?_)
    refine s_run (b := [(.iload_n 3, 1), (.ishr, 1), (.iconst 1, 1), (.iand, 1)]) 31 [some (.inr (.inr x0)), some (.inl x1), some (.inl x2), some (.inl x3), some (.inl x4), some (.inl x5), none] [.inl ((v4 >>> (x3 &&& 31)) &&& (1 : Int32))] (by decide +kernel) rfl ?_
    refine s_if_eq (tgt := 38) (off := 7) (by decide +kernel) (by decide) (fun h5 => ?_) (fun h5 => ?_)
    · skip
      refine s_run (b := [(.iconst 0, 1)]) 39 [some (.inr (.inr x0)), some (.inl x1), some (.inl x2), some (.inl x3), some (.inl x4), some (.inl x5), none] [.inl (0 : Int32)] (by decide +kernel) rfl ?_
      exact s_lsub (ls' := [some (.inr (.inr x0)), some (.inl x1), some (.inl x2), some (.inl x3), some (.inl x4), some (.inl x5), none]) ⟨rfl, ⟨rfl, ⟨rfl, ⟨rfl, ⟨rfl, ⟨rfl, trivial⟩⟩⟩⟩⟩⟩ (J_X10_familiesSaying_39 M x0 x1 x2 x3 x4 x5 (0 : Int32) K kk1 kk2_0)
    · skip
      refine s_run (b := [(.iconst 1, 1), (.goto 4, 3)]) 39 [some (.inr (.inr x0)), some (.inl x1), some (.inl x2), some (.inl x3), some (.inl x4), some (.inl x5), none] [.inl (1 : Int32)] (by decide +kernel) rfl ?_
      exact s_lsub (ls' := [some (.inr (.inr x0)), some (.inl x1), some (.inl x2), some (.inl x3), some (.inl x4), some (.inl x5), none]) ⟨rfl, ⟨rfl, ⟨rfl, ⟨rfl, ⟨rfl, ⟨rfl, trivial⟩⟩⟩⟩⟩⟩ (J_X10_familiesSaying_39 M x0 x1 x2 x3 x4 x5 (1 : Int32) K kk1 kk2_0)
set_option maxRecDepth 20000 in
theorem L_X10_familiesSaying_6 {l : Launch} {G : Gv} {lim : Nat × Nat} (M : Mem) (x0 : Nat) (x1 : Int32) (x2 : Int32) (x3 : Int32) (x4 : Int32) (x5 : Int32) (K : ((Int32)) → Option (Option Value × Mem)) (kk2_0 : ∀ r : Int32, SimR l G Y_X10_familiesSaying lim (K r) 70 [none, none, none, none, some (.inl r), none, none] [] M) : Sim l G Y_X10_familiesSaying lim (f_X10_familiesSaying_L6 M x0 x1 x2 x3 x4 x5) K 6 [some (.inr (.inr x0)), some (.inl x1), some (.inl x2), some (.inl x3), some (.inl x4), some (.inl x5), none] [] M :=
  s_iter (f := fun s : Int32 × Int32 => f_X10_familiesSaying_B6 M x0 x1 x2 x3 s.1 s.2) (hd := 6) (cl := fun s => [some (.inr (.inr x0)), some (.inl x1), some (.inl x2), some (.inl x3), some (.inl s.1), some (.inl s.2), none]) (cm := fun s => M) (xp := fun _ => 70) (xl := fun r => [none, none, none, none, some (.inl r), none, none]) (xm := fun r => M) (fun s K h1 h2 => B_X10_familiesSaying_6 M x0 x1 x2 x3 s.1 s.2 K (fun a4 a5 => h1 (a4, a5)) (fun a4 => h2 a4)) 1048576 (x4, x5) K kk2_0
def f_X10_familiesSaying (M : Mem) (x0 : Nat) (x1 : Int32) (x2 : Int32) (x3 : Int32) : Option (Int32) :=
  (f_X10_familiesSaying_L6 M x0 x1 x2 x3 (0 : Int32) (0 : Int32)).bind fun r1 =>
  some r1
set_option maxRecDepth 20000 in
theorem S_X10_familiesSaying {l : Launch} {G : Gv} {lim : Nat × Nat} (M : Mem) (x0 : Nat) (x1 : Int32) (x2 : Int32) (x3 : Int32) : Sim l G Y_X10_familiesSaying lim (f_X10_familiesSaying M x0 x1 x2 x3) (fun z => some (some (.int z), M)) 0 [some (.inr (.inr x0)), some (.inl x1), some (.inl x2), some (.inl x3), none, none, none] [] M := by
  unfold f_X10_familiesSaying
  refine s_run (b := [(.iconst 0, 1), (.istore 4, 2), (.iconst 0, 1), (.istore 5, 2)]) 6 [some (.inr (.inr x0)), some (.inl x1), some (.inl x2), some (.inl x3), some (.inl (0 : Int32)), some (.inl (0 : Int32)), none] [] (by decide +kernel) rfl ?_
  refine s_lsub (ls' := [some (.inr (.inr x0)), some (.inl x1), some (.inl x2), some (.inl x3), some (.inl (0 : Int32)), some (.inl (0 : Int32)), none]) ⟨rfl, ⟨rfl, ⟨rfl, ⟨rfl, ⟨rfl, ⟨rfl, trivial⟩⟩⟩⟩⟩⟩ ?_
  refine sim_bind (L_X10_familiesSaying_6 M x0 x1 x2 x3 (0 : Int32) (0 : Int32) _ (fun r1 => ?_))
  change Sim l G Y_X10_familiesSaying lim _ _ 70 [none, none, none, none, some (.inl r1), none, none] [] M
  refine s_run (b := [(.iload 4, 2)]) 72 [none, none, none, none, some (.inl r1), none, none] [.inl r1] (by decide +kernel) rfl ?_
  exact s_iret (by decide +kernel) rfl
set_option maxRecDepth 20000 in
theorem c_X10_familiesSaying {l : Launch} {G : Gv} {M : Mem} {x0 : Nat} {x1 : Int32} {x2 : Int32} {x3 : Int32} {z : Int32} (h : f_X10_familiesSaying M x0 x1 x2 x3 = some z) : MetS l G Y_X10_familiesSaying [.inr (.inr x0), .inl x1, .inl x2, .inl x3] M (some (.int z)) M :=
  met_of (ls0 := [some (.inr (.inr x0)), some (.inl x1), some (.inl x2), some (.inl x3), none, none, none]) (by decide) rfl (lv_in (m := 3) rfl) (sl_le (Nat.le_of_ble_eq_true rfl)) (by rw [h]; rfl) (Or.inl ⟨rfl, rfl⟩) (S_X10_familiesSaying M x0 x1 x2 x3)
def f_X10_rowsSaying_B15 (M : Mem) (x0 : Nat) (x2 : Int32) (x4 : Int32) (x5 : Int32) (x6 : Int32) : Option ((Int32 × Int32) ⊕ ((Int32))) :=
  (gI M 10 x0 4).bind fun v1 =>
  (if v1 ≤ x6 then
    some (.inr x5)
  else
    (if ((x4 >>> (x6 &&& 31)) &&& (1 : Int32)) = 0 then
      some (.inl (x5, (x6 + (1 : Int32))))
    else
      (ob M 10 x0).bind fun _ => (f_X10_rowsFrom M x0 x6 (x2 + (1 : Int32))).bind fun v4 =>
      some (.inl ((x5 + v4), (x6 + (1 : Int32))))))
def f_X10_rowsSaying_L15 (M : Mem) (x0 : Nat) (x2 : Int32) (x4 : Int32) (x5 : Int32) (x6 : Int32) : Option ((Int32)) := iter (fun s : Int32 × Int32 => f_X10_rowsSaying_B15 M x0 x2 x4 s.1 s.2) 1048576 (x5, x6)
set_option maxRecDepth 20000 in
theorem B_X10_rowsSaying_15 {l : Launch} {G : Gv} {lim : Nat × Nat} (M : Mem) (x0 : Nat) (x2 : Int32) (x4 : Int32) (x5 : Int32) (x6 : Int32) (K : (Int32 × Int32) ⊕ ((Int32)) → Option (Option Value × Mem)) (kk1 : ∀ (s5 : Int32) (s6 : Int32), SimR l G Y_X10_rowsSaying lim (K (.inl (s5, s6))) 15 [some (.inr (.inr x0)), none, some (.inl x2), none, some (.inl x4), some (.inl s5), some (.inl s6)] [] M) (kk2_0 : ∀ (s5 : Int32), SimR l G Y_X10_rowsSaying lim (K (.inr s5)) 54 [none, none, none, none, none, some (.inl s5), none] [] M) : Sim l G Y_X10_rowsSaying lim (f_X10_rowsSaying_B15 M x0 x2 x4 x5 x6) K 15 [some (.inr (.inr x0)), none, some (.inl x2), none, some (.inl x4), some (.inl x5), some (.inl x6)] [] M := by
  unfold f_X10_rowsSaying_B15
  refine s_run (b := [(.iload 6, 2), (.aload_n 0, 1)]) 18 [some (.inr (.inr x0)), none, some (.inl x2), none, some (.inl x4), some (.inl x5), some (.inl x6)] [.inr (.inr x0), .inl x6] (by decide +kernel) rfl ?_
  refine s_gI fl_10_53 rfl (by decide +kernel) (fun v1 => ?_)
  refine s_ic_ge (tgt := 54) (off := 33) (by decide +kernel) (by decide) (fun h2 => ?_) (fun h2 => ?_)
  · skip
    exact s_lsub (ls' := [none, none, none, none, none, some (.inl x5), none]) ⟨rfl, trivial⟩ (kk2_0 x5)
  · skip
    refine s_run (b := [(.iload 4, 2), (.iload 6, 2), (.ishr, 1), (.iconst 1, 1), (.iand, 1)]) 31 [some (.inr (.inr x0)), none, some (.inl x2), none, some (.inl x4), some (.inl x5), some (.inl x6)] [.inl ((x4 >>> (x6 &&& 31)) &&& (1 : Int32))] (by decide +kernel) rfl ?_
    refine s_if_eq (tgt := 48) (off := 17) (by decide +kernel) (by decide) (fun h3 => ?_) (fun h3 => ?_)
    · skip
      refine s_run (b := [(.iinc 6 1, 3), (.goto (-36), 3)]) 15 [some (.inr (.inr x0)), none, some (.inl x2), none, some (.inl x4), some (.inl x5), some (.inl (x6 + (1 : Int32)))] [] (by decide +kernel) rfl ?_
      exact s_lsub (ls' := [some (.inr (.inr x0)), none, some (.inl x2), none, some (.inl x4), some (.inl x5), some (.inl (x6 + (1 : Int32)))]) ⟨rfl, ⟨rfl, ⟨rfl, ⟨rfl, ⟨rfl, trivial⟩⟩⟩⟩⟩ (kk1 x5 (x6 + (1 : Int32)))
    · skip
      refine s_run (b := [(.iload 5, 2), (.aload_n 0, 1), (.iload 6, 2), (.iload_n 2, 1), (.iconst 1, 1), (.iadd, 1)]) 42 [some (.inr (.inr x0)), none, some (.inl x2), none, some (.inl x4), some (.inl x5), some (.inl x6)] [.inl (x2 + (1 : Int32)), .inl x6, .inr (.inr x0), .inl x5] (by decide +kernel) rfl ?_
      refine s_cV (Z := Y_X10_rowsFrom) (c := 10) (vs := [.inl x6, .inl (x2 + (1 : Int32))]) (st := [.inl x5]) (rO := fun z => some (.inl z)) (mO := fun _ => M) zk_X10_rowsFrom zi_X10_rowsFrom q943 rfl ⟨by decide, by decide⟩ ⟨rfl, rfl⟩ rfl rfl (Nat.le_of_ble_eq_true rfl) (by decide +kernel) (fun z hz => c_X10_rowsFrom hz) (fun v4 => ?_)
      change Sim l G Y_X10_rowsSaying lim _ _ 45 [some (.inr (.inr x0)), none, some (.inl x2), none, some (.inl x4), some (.inl x5), some (.inl x6)] [.inl v4, .inl x5] M
      refine s_run (b := [(.iadd, 1), (.istore 5, 2), (.iinc 6 1, 3), (.goto (-36), 3)]) 15 [some (.inr (.inr x0)), none, some (.inl x2), none, some (.inl x4), some (.inl (x5 + v4)), some (.inl (x6 + (1 : Int32)))] [] (by decide +kernel) rfl ?_
      exact s_lsub (ls' := [some (.inr (.inr x0)), none, some (.inl x2), none, some (.inl x4), some (.inl (x5 + v4)), some (.inl (x6 + (1 : Int32)))]) ⟨rfl, ⟨rfl, ⟨rfl, ⟨rfl, ⟨rfl, trivial⟩⟩⟩⟩⟩ (kk1 (x5 + v4) (x6 + (1 : Int32)))
set_option maxRecDepth 20000 in
theorem L_X10_rowsSaying_15 {l : Launch} {G : Gv} {lim : Nat × Nat} (M : Mem) (x0 : Nat) (x2 : Int32) (x4 : Int32) (x5 : Int32) (x6 : Int32) (K : ((Int32)) → Option (Option Value × Mem)) (kk2_0 : ∀ r : Int32, SimR l G Y_X10_rowsSaying lim (K r) 54 [none, none, none, none, none, some (.inl r), none] [] M) : Sim l G Y_X10_rowsSaying lim (f_X10_rowsSaying_L15 M x0 x2 x4 x5 x6) K 15 [some (.inr (.inr x0)), none, some (.inl x2), none, some (.inl x4), some (.inl x5), some (.inl x6)] [] M :=
  s_iter (f := fun s : Int32 × Int32 => f_X10_rowsSaying_B15 M x0 x2 x4 s.1 s.2) (hd := 15) (cl := fun s => [some (.inr (.inr x0)), none, some (.inl x2), none, some (.inl x4), some (.inl s.1), some (.inl s.2)]) (cm := fun s => M) (xp := fun _ => 54) (xl := fun r => [none, none, none, none, none, some (.inl r), none]) (xm := fun r => M) (fun s K h1 h2 => B_X10_rowsSaying_15 M x0 x2 x4 s.1 s.2 K (fun a5 a6 => h1 (a5, a6)) (fun a5 => h2 a5)) 1048576 (x5, x6) K kk2_0
def f_X10_rowsSaying (M : Mem) (x0 : Nat) (x1 : Int32) (x2 : Int32) (x3 : Int32) : Option (Int32) :=
  (ob M 10 x0).bind fun _ => (f_X10_familiesSaying M x0 x1 x2 x3).bind fun v1 =>
  (f_X10_rowsSaying_L15 M x0 x2 v1 (0 : Int32) (0 : Int32)).bind fun r2 =>
  some r2
set_option maxRecDepth 20000 in
theorem S_X10_rowsSaying {l : Launch} {G : Gv} {lim : Nat × Nat} (M : Mem) (x0 : Nat) (x1 : Int32) (x2 : Int32) (x3 : Int32) : Sim l G Y_X10_rowsSaying lim (f_X10_rowsSaying M x0 x1 x2 x3) (fun z => some (some (.int z), M)) 0 [some (.inr (.inr x0)), some (.inl x1), some (.inl x2), some (.inl x3), none, none, none] [] M := by
  unfold f_X10_rowsSaying
  refine s_run (b := [(.aload_n 0, 1), (.iload_n 1, 1), (.iload_n 2, 1), (.iload_n 3, 1)]) 4 [some (.inr (.inr x0)), some (.inl x1), some (.inl x2), some (.inl x3), none, none, none] [.inl x3, .inl x2, .inl x1, .inr (.inr x0)] (by decide +kernel) rfl ?_
  refine s_cV (Z := Y_X10_familiesSaying) (c := 10) (vs := [.inl x1, .inl x2, .inl x3]) (st := []) (rO := fun z => some (.inl z)) (mO := fun _ => M) zk_X10_familiesSaying zi_X10_familiesSaying q961 rfl ⟨by decide, by decide⟩ ⟨rfl, rfl⟩ rfl rfl (Nat.le_of_ble_eq_true rfl) (by decide +kernel) (fun z hz => c_X10_familiesSaying hz) (fun v1 => ?_)
  change Sim l G Y_X10_rowsSaying lim _ _ 7 [some (.inr (.inr x0)), some (.inl x1), some (.inl x2), some (.inl x3), none, none, none] [.inl v1] M
  refine s_run (b := [(.istore 4, 2), (.iconst 0, 1), (.istore 5, 2), (.iconst 0, 1), (.istore 6, 2)]) 15 [some (.inr (.inr x0)), some (.inl x1), some (.inl x2), some (.inl x3), some (.inl v1), some (.inl (0 : Int32)), some (.inl (0 : Int32))] [] (by decide +kernel) rfl ?_
  refine s_lsub (ls' := [some (.inr (.inr x0)), none, some (.inl x2), none, some (.inl v1), some (.inl (0 : Int32)), some (.inl (0 : Int32))]) ⟨rfl, ⟨rfl, ⟨rfl, ⟨rfl, ⟨rfl, trivial⟩⟩⟩⟩⟩ ?_
  refine sim_bind (L_X10_rowsSaying_15 M x0 x2 v1 (0 : Int32) (0 : Int32) _ (fun r2 => ?_))
  change Sim l G Y_X10_rowsSaying lim _ _ 54 [none, none, none, none, none, some (.inl r2), none] [] M
  refine s_run (b := [(.iload 5, 2)]) 56 [none, none, none, none, none, some (.inl r2), none] [.inl r2] (by decide +kernel) rfl ?_
  exact s_iret (by decide +kernel) rfl
set_option maxRecDepth 20000 in
theorem c_X10_rowsSaying {l : Launch} {G : Gv} {M : Mem} {x0 : Nat} {x1 : Int32} {x2 : Int32} {x3 : Int32} {z : Int32} (h : f_X10_rowsSaying M x0 x1 x2 x3 = some z) : MetS l G Y_X10_rowsSaying [.inr (.inr x0), .inl x1, .inl x2, .inl x3] M (some (.int z)) M :=
  met_of (ls0 := [some (.inr (.inr x0)), some (.inl x1), some (.inl x2), some (.inl x3), none, none, none]) (by decide) rfl (lv_in (m := 3) rfl) (sl_le (Nat.le_of_ble_eq_true rfl)) (by rw [h]; rfl) (Or.inl ⟨rfl, rfl⟩) (S_X10_rowsSaying M x0 x1 x2 x3)
def f_X10_restAt_B55 (M : Mem) (x0 : Nat) (x3 : Int32) (x4 : Int32) (x5 : Int32) (x2 : Int32) (x6 : Int32) (x7 : Int32) : Option ((Int32 × Int32 × Int32) ⊕ ((Int32 × Int32))) :=
  (if (3 : Int32) ≤ x6 then
    some (.inr (x2, x6))
  else
    (if x2 < x7 then
      some (.inr (x2, x6))
    else
      (ob M 10 x0).bind fun _ => (f_X10_rowsSaying M x0 x4 x5 (x6 + (1 : Int32))).bind fun v3 =>
      some (.inl ((x2 - x7), (x6 + (1 : Int32)), v3))))
def f_X10_restAt_L55 (M : Mem) (x0 : Nat) (x3 : Int32) (x4 : Int32) (x5 : Int32) (x2 : Int32) (x6 : Int32) (x7 : Int32) : Option ((Int32 × Int32)) := iter (fun s : Int32 × Int32 × Int32 => f_X10_restAt_B55 M x0 x3 x4 x5 s.1 s.2.1 s.2.2) 1048576 (x2, x6, x7)
set_option maxRecDepth 20000 in
theorem B_X10_restAt_55 {l : Launch} {G : Gv} {lim : Nat × Nat} (M : Mem) (x0 : Nat) (x3 : Int32) (x4 : Int32) (x5 : Int32) (x2 : Int32) (x6 : Int32) (x7 : Int32) (K : (Int32 × Int32 × Int32) ⊕ ((Int32 × Int32)) → Option (Option Value × Mem)) (kk1 : ∀ (s2 : Int32) (s6 : Int32) (s7 : Int32), SimR l G Y_X10_restAt lim (K (.inl (s2, s6, s7))) 55 [some (.inr (.inr x0)), none, some (.inl s2), some (.inl x3), some (.inl x4), some (.inl x5), some (.inl s6), some (.inl s7)] [] M) (kk2_0 : ∀ (s2 : Int32) (s6 : Int32), SimR l G Y_X10_restAt lim (K (.inr (s2, s6))) 90 [some (.inr (.inr x0)), none, some (.inl s2), some (.inl x3), some (.inl x4), some (.inl x5), some (.inl s6), none] [] M) : Sim l G Y_X10_restAt lim (f_X10_restAt_B55 M x0 x3 x4 x5 x2 x6 x7) K 55 [some (.inr (.inr x0)), none, some (.inl x2), some (.inl x3), some (.inl x4), some (.inl x5), some (.inl x6), some (.inl x7)] [] M := by
  unfold f_X10_restAt_B55
  refine s_run (b := [(.iload 6, 2), (.iconst 3, 1)]) 58 [some (.inr (.inr x0)), none, some (.inl x2), some (.inl x3), some (.inl x4), some (.inl x5), some (.inl x6), some (.inl x7)] [.inl (3 : Int32), .inl x6] (by decide +kernel) rfl ?_
  refine s_ic_ge (tgt := 90) (off := 32) (by decide +kernel) (by decide) (fun h1 => ?_) (fun h1 => ?_)
  · skip
    exact s_lsub (ls' := [some (.inr (.inr x0)), none, some (.inl x2), some (.inl x3), some (.inl x4), some (.inl x5), some (.inl x6), none]) ⟨rfl, ⟨rfl, ⟨rfl, ⟨rfl, ⟨rfl, ⟨rfl, trivial⟩⟩⟩⟩⟩⟩ (kk2_0 x2 x6)
  · skip
    refine s_run (b := [(.iload_n 2, 1), (.iload 7, 2)]) 64 [some (.inr (.inr x0)), none, some (.inl x2), some (.inl x3), some (.inl x4), some (.inl x5), some (.inl x6), some (.inl x7)] [.inl x7, .inl x2] (by decide +kernel) rfl ?_
    refine s_ic_lt (tgt := 90) (off := 26) (by decide +kernel) (by decide) (fun h2 => ?_) (fun h2 => ?_)
    · skip
      exact s_lsub (ls' := [some (.inr (.inr x0)), none, some (.inl x2), some (.inl x3), some (.inl x4), some (.inl x5), some (.inl x6), none]) ⟨rfl, ⟨rfl, ⟨rfl, ⟨rfl, ⟨rfl, ⟨rfl, trivial⟩⟩⟩⟩⟩⟩ (kk2_0 x2 x6)
    · skip
      refine s_run (b := [(.iload_n 2, 1), (.iload 7, 2), (.isub, 1), (.istore_n 2, 1), (.iinc 6 1, 3), (.aload_n 0, 1), (.iload 4, 2), (.iload 5, 2), (.iload 6, 2)]) 82 [some (.inr (.inr x0)), none, some (.inl (x2 - x7)), some (.inl x3), some (.inl x4), some (.inl x5), some (.inl (x6 + (1 : Int32))), some (.inl x7)] [.inl (x6 + (1 : Int32)), .inl x5, .inl x4, .inr (.inr x0)] (by decide +kernel) rfl ?_
      refine s_cV (Z := Y_X10_rowsSaying) (c := 10) (vs := [.inl x4, .inl x5, .inl (x6 + (1 : Int32))]) (st := []) (rO := fun z => some (.inl z)) (mO := fun _ => M) zk_X10_rowsSaying zi_X10_rowsSaying q957 rfl ⟨by decide, by decide⟩ ⟨rfl, rfl⟩ rfl rfl (Nat.le_of_ble_eq_true rfl) (by decide +kernel) (fun z hz => c_X10_rowsSaying hz) (fun v3 => ?_)
      change Sim l G Y_X10_restAt lim _ _ 85 [some (.inr (.inr x0)), none, some (.inl (x2 - x7)), some (.inl x3), some (.inl x4), some (.inl x5), some (.inl (x6 + (1 : Int32))), some (.inl x7)] [.inl v3] M
      refine s_run (b := [(.istore 7, 2), (.goto (-32), 3)]) 55 [some (.inr (.inr x0)), none, some (.inl (x2 - x7)), some (.inl x3), some (.inl x4), some (.inl x5), some (.inl (x6 + (1 : Int32))), some (.inl v3)] [] (by decide +kernel) rfl ?_
      exact s_lsub (ls' := [some (.inr (.inr x0)), none, some (.inl (x2 - x7)), some (.inl x3), some (.inl x4), some (.inl x5), some (.inl (x6 + (1 : Int32))), some (.inl v3)]) ⟨rfl, ⟨rfl, ⟨rfl, ⟨rfl, ⟨rfl, ⟨rfl, ⟨rfl, trivial⟩⟩⟩⟩⟩⟩⟩ (kk1 (x2 - x7) (x6 + (1 : Int32)) v3)
set_option maxRecDepth 20000 in
theorem L_X10_restAt_55 {l : Launch} {G : Gv} {lim : Nat × Nat} (M : Mem) (x0 : Nat) (x3 : Int32) (x4 : Int32) (x5 : Int32) (x2 : Int32) (x6 : Int32) (x7 : Int32) (K : ((Int32 × Int32)) → Option (Option Value × Mem)) (kk2_0 : ∀ r : Int32 × Int32, SimR l G Y_X10_restAt lim (K r) 90 [some (.inr (.inr x0)), none, some (.inl r.1), some (.inl x3), some (.inl x4), some (.inl x5), some (.inl r.2), none] [] M) : Sim l G Y_X10_restAt lim (f_X10_restAt_L55 M x0 x3 x4 x5 x2 x6 x7) K 55 [some (.inr (.inr x0)), none, some (.inl x2), some (.inl x3), some (.inl x4), some (.inl x5), some (.inl x6), some (.inl x7)] [] M :=
  s_iter (f := fun s : Int32 × Int32 × Int32 => f_X10_restAt_B55 M x0 x3 x4 x5 s.1 s.2.1 s.2.2) (hd := 55) (cl := fun s => [some (.inr (.inr x0)), none, some (.inl s.1), some (.inl x3), some (.inl x4), some (.inl x5), some (.inl s.2.1), some (.inl s.2.2)]) (cm := fun s => M) (xp := fun _ => 90) (xl := fun r => [some (.inr (.inr x0)), none, some (.inl r.1), some (.inl x3), some (.inl x4), some (.inl x5), some (.inl r.2), none]) (xm := fun r => M) (fun s K h1 h2 => B_X10_restAt_55 M x0 x3 x4 x5 s.1 s.2.1 s.2.2 K (fun a2 a6 a7 => h1 (a2, a6, a7)) (fun a2 a6 => h2 (a2, a6))) 1048576 (x2, x6, x7) K kk2_0
def f_X10_restAt_B31 (M : Mem) (x0 : Nat) (x2 : Int32) (x3 : Int32) (x4 : Int32) (x5 : Int32) : Option ((Int32 × Int32 × Int32 × Int32) ⊕ ((Int32))) :=
  (gI M 10 x0 0).bind fun v1 =>
  (if v1 ≤ x5 then
    some (.inr x3)
  else
    (ob M 10 x0).bind fun _ => (f_X10_rowsSaying M x0 x4 x5 (0 : Int32)).bind fun v3 =>
    (f_X10_restAt_L55 M x0 x3 x4 x5 x2 (0 : Int32) v3).bind fun r4 =>
    (ob M 10 x0).bind fun _ => (f_X10_familiesSaying M x0 x4 x5 r4.2).bind fun v5 =>
    some (.inl (r4.1, ((x3 * (4 : Int32)) + r4.2), v5, (x5 + (1 : Int32)))))
def f_X10_restAt_L31 (M : Mem) (x0 : Nat) (x2 : Int32) (x3 : Int32) (x4 : Int32) (x5 : Int32) : Option ((Int32)) := iter (fun s : Int32 × Int32 × Int32 × Int32 => f_X10_restAt_B31 M x0 s.1 s.2.1 s.2.2.1 s.2.2.2) 1048576 (x2, x3, x4, x5)
set_option maxRecDepth 20000 in
theorem B_X10_restAt_31 {l : Launch} {G : Gv} {lim : Nat × Nat} (M : Mem) (x0 : Nat) (x2 : Int32) (x3 : Int32) (x4 : Int32) (x5 : Int32) (K : (Int32 × Int32 × Int32 × Int32) ⊕ ((Int32)) → Option (Option Value × Mem)) (kk1 : ∀ (s2 : Int32) (s3 : Int32) (s4 : Int32) (s5 : Int32), SimR l G Y_X10_restAt lim (K (.inl (s2, s3, s4, s5))) 31 [some (.inr (.inr x0)), none, some (.inl s2), some (.inl s3), some (.inl s4), some (.inl s5), none, none] [] M) (kk2_0 : ∀ (s3 : Int32), SimR l G Y_X10_restAt lim (K (.inr s3)) 115 [none, none, none, some (.inl s3), none, none, none, none] [] M) : Sim l G Y_X10_restAt lim (f_X10_restAt_B31 M x0 x2 x3 x4 x5) K 31 [some (.inr (.inr x0)), none, some (.inl x2), some (.inl x3), some (.inl x4), some (.inl x5), none, none] [] M := by
  unfold f_X10_restAt_B31
  refine s_run (b := [(.iload 5, 2), (.aload_n 0, 1)]) 34 [some (.inr (.inr x0)), none, some (.inl x2), some (.inl x3), some (.inl x4), some (.inl x5), none, none] [.inr (.inr x0), .inl x5] (by decide +kernel) rfl ?_
  refine s_gI fl_10_24 rfl (by decide +kernel) (fun v1 => ?_)
  refine s_ic_ge (tgt := 115) (off := 78) (by decide +kernel) (by decide) (fun h2 => ?_) (fun h2 => ?_)
  · skip
    exact s_lsub (ls' := [none, none, none, some (.inl x3), none, none, none, none]) ⟨rfl, trivial⟩ (kk2_0 x3)
  · skip
    refine s_run (b := [(.iconst 0, 1), (.istore 6, 2), (.aload_n 0, 1), (.iload 4, 2), (.iload 5, 2), (.iload 6, 2)]) 50 [some (.inr (.inr x0)), none, some (.inl x2), some (.inl x3), some (.inl x4), some (.inl x5), some (.inl (0 : Int32)), none] [.inl (0 : Int32), .inl x5, .inl x4, .inr (.inr x0)] (by decide +kernel) rfl ?_
    refine s_cV (Z := Y_X10_rowsSaying) (c := 10) (vs := [.inl x4, .inl x5, .inl (0 : Int32)]) (st := []) (rO := fun z => some (.inl z)) (mO := fun _ => M) zk_X10_rowsSaying zi_X10_rowsSaying q957 rfl ⟨by decide, by decide⟩ ⟨rfl, rfl⟩ rfl rfl (Nat.le_of_ble_eq_true rfl) (by decide +kernel) (fun z hz => c_X10_rowsSaying hz) (fun v3 => ?_)
    change Sim l G Y_X10_restAt lim _ _ 53 [some (.inr (.inr x0)), none, some (.inl x2), some (.inl x3), some (.inl x4), some (.inl x5), some (.inl (0 : Int32)), none] [.inl v3] M
    refine s_run (b := [(.istore 7, 2)]) 55 [some (.inr (.inr x0)), none, some (.inl x2), some (.inl x3), some (.inl x4), some (.inl x5), some (.inl (0 : Int32)), some (.inl v3)] [] (by decide +kernel) rfl ?_
    refine s_lsub (ls' := [some (.inr (.inr x0)), none, some (.inl x2), some (.inl x3), some (.inl x4), some (.inl x5), some (.inl (0 : Int32)), some (.inl v3)]) ⟨rfl, ⟨rfl, ⟨rfl, ⟨rfl, ⟨rfl, ⟨rfl, ⟨rfl, trivial⟩⟩⟩⟩⟩⟩⟩ ?_
    refine sim_bind (L_X10_restAt_55 M x0 x3 x4 x5 x2 (0 : Int32) v3 _ (fun r4 => ?_))
    change Sim l G Y_X10_restAt lim _ _ 90 [some (.inr (.inr x0)), none, some (.inl r4.1), some (.inl x3), some (.inl x4), some (.inl x5), some (.inl r4.2), none] [] M
    refine s_run (b := [(.iload_n 3, 1), (.iconst 4, 1), (.imul, 1), (.iload 6, 2), (.iadd, 1), (.istore_n 3, 1), (.aload_n 0, 1), (.iload 4, 2), (.iload 5, 2), (.iload 6, 2)]) 104 [some (.inr (.inr x0)), none, some (.inl r4.1), some (.inl ((x3 * (4 : Int32)) + r4.2)), some (.inl x4), some (.inl x5), some (.inl r4.2), none] [.inl r4.2, .inl x5, .inl x4, .inr (.inr x0)] (by decide +kernel) rfl ?_
    refine s_cV (Z := Y_X10_familiesSaying) (c := 10) (vs := [.inl x4, .inl x5, .inl r4.2]) (st := []) (rO := fun z => some (.inl z)) (mO := fun _ => M) zk_X10_familiesSaying zi_X10_familiesSaying q961 rfl ⟨by decide, by decide⟩ ⟨rfl, rfl⟩ rfl rfl (Nat.le_of_ble_eq_true rfl) (by decide +kernel) (fun z hz => c_X10_familiesSaying hz) (fun v5 => ?_)
    change Sim l G Y_X10_restAt lim _ _ 107 [some (.inr (.inr x0)), none, some (.inl r4.1), some (.inl ((x3 * (4 : Int32)) + r4.2)), some (.inl x4), some (.inl x5), some (.inl r4.2), none] [.inl v5] M
    refine s_run (b := [(.istore 4, 2), (.iinc 5 1, 3), (.goto (-81), 3)]) 31 [some (.inr (.inr x0)), none, some (.inl r4.1), some (.inl ((x3 * (4 : Int32)) + r4.2)), some (.inl v5), some (.inl (x5 + (1 : Int32))), some (.inl r4.2), none] [] (by decide +kernel) rfl ?_
    exact s_lsub (ls' := [some (.inr (.inr x0)), none, some (.inl r4.1), some (.inl ((x3 * (4 : Int32)) + r4.2)), some (.inl v5), some (.inl (x5 + (1 : Int32))), none, none]) ⟨rfl, ⟨rfl, ⟨rfl, ⟨rfl, ⟨rfl, trivial⟩⟩⟩⟩⟩ (kk1 r4.1 ((x3 * (4 : Int32)) + r4.2) v5 (x5 + (1 : Int32)))
set_option maxRecDepth 20000 in
theorem L_X10_restAt_31 {l : Launch} {G : Gv} {lim : Nat × Nat} (M : Mem) (x0 : Nat) (x2 : Int32) (x3 : Int32) (x4 : Int32) (x5 : Int32) (K : ((Int32)) → Option (Option Value × Mem)) (kk2_0 : ∀ r : Int32, SimR l G Y_X10_restAt lim (K r) 115 [none, none, none, some (.inl r), none, none, none, none] [] M) : Sim l G Y_X10_restAt lim (f_X10_restAt_L31 M x0 x2 x3 x4 x5) K 31 [some (.inr (.inr x0)), none, some (.inl x2), some (.inl x3), some (.inl x4), some (.inl x5), none, none] [] M :=
  s_iter (f := fun s : Int32 × Int32 × Int32 × Int32 => f_X10_restAt_B31 M x0 s.1 s.2.1 s.2.2.1 s.2.2.2) (hd := 31) (cl := fun s => [some (.inr (.inr x0)), none, some (.inl s.1), some (.inl s.2.1), some (.inl s.2.2.1), some (.inl s.2.2.2), none, none]) (cm := fun s => M) (xp := fun _ => 115) (xl := fun r => [none, none, none, some (.inl r), none, none, none, none]) (xm := fun r => M) (fun s K h1 h2 => B_X10_restAt_31 M x0 s.1 s.2.1 s.2.2.1 s.2.2.2 K (fun a2 a3 a4 a5 => h1 (a2, a3, a4, a5)) (fun a3 => h2 a3)) 1048576 (x2, x3, x4, x5) K kk2_0
def f_X10_restAt (M : Mem) (x0 : Nat) (x1 : Int32) : Option (Int32) :=
  (if x1 < 0 then
    some (-1 : Int32)
  else
    (ob M 10 x0).bind fun _ => (f_X10_howMany M x0).bind fun v2 =>
    (if x1 < v2 then
      (gI M 10 x0 4).bind fun v4 =>
      (f_X10_restAt_L31 M x0 x1 (0 : Int32) (((1 : Int32) <<< (v4 &&& 31)) - (1 : Int32)) (0 : Int32)).bind fun r5 =>
      some r5
    else
      some (-1 : Int32)))
set_option maxRecDepth 20000 in
theorem S_X10_restAt {l : Launch} {G : Gv} {lim : Nat × Nat} (M : Mem) (x0 : Nat) (x1 : Int32) : Sim l G Y_X10_restAt lim (f_X10_restAt M x0 x1) (fun z => some (some (.int z), M)) 0 [some (.inr (.inr x0)), some (.inl x1), none, none, none, none, none, none] [] M := by
  unfold f_X10_restAt
  refine s_run (b := [(.iload_n 1, 1)]) 1 [some (.inr (.inr x0)), some (.inl x1), none, none, none, none, none, none] [.inl x1] (by decide +kernel) rfl ?_
  refine s_if_lt (tgt := 12) (off := 11) (by decide +kernel) (by decide) (fun h1 => ?_) (fun h1 => ?_)
  · skip
    refine s_run (b := [(.iconst (-1), 1)]) 13 [some (.inr (.inr x0)), some (.inl x1), none, none, none, none, none, none] [.inl (-1 : Int32)] (by decide +kernel) rfl ?_
    exact s_iret (by decide +kernel) rfl
  · skip
    refine s_run (b := [(.iload_n 1, 1), (.aload_n 0, 1)]) 6 [some (.inr (.inr x0)), some (.inl x1), none, none, none, none, none, none] [.inr (.inr x0), .inl x1] (by decide +kernel) rfl ?_
    refine s_cV (Z := Y_X10_howMany) (c := 10) (vs := []) (st := [.inl x1]) (rO := fun z => some (.inl z)) (mO := fun _ => M) zk_X10_howMany zi_X10_howMany q956 rfl ⟨by decide, by decide⟩ ⟨rfl, rfl⟩ rfl rfl (Nat.le_of_ble_eq_true rfl) (by decide +kernel) (fun z hz => c_X10_howMany hz) (fun v2 => ?_)
    change Sim l G Y_X10_restAt lim _ _ 9 [some (.inr (.inr x0)), some (.inl x1), none, none, none, none, none, none] [.inl v2, .inl x1] M
    refine s_ic_lt (tgt := 14) (off := 5) (by decide +kernel) (by decide) (fun h3 => ?_) (fun h3 => ?_)
    · skip
      refine s_run (b := [(.iload_n 1, 1), (.istore_n 2, 1), (.iconst 0, 1), (.istore_n 3, 1), (.iconst 1, 1), (.aload_n 0, 1)]) 20 [some (.inr (.inr x0)), some (.inl x1), some (.inl x1), some (.inl (0 : Int32)), none, none, none, none] [.inr (.inr x0), .inl (1 : Int32)] (by decide +kernel) rfl ?_
      refine s_gI fl_10_53 rfl (by decide +kernel) (fun v4 => ?_)
      refine s_run (b := [(.ishl, 1), (.iconst 1, 1), (.isub, 1), (.istore 4, 2), (.iconst 0, 1), (.istore 5, 2)]) 31 [some (.inr (.inr x0)), some (.inl x1), some (.inl x1), some (.inl (0 : Int32)), some (.inl (((1 : Int32) <<< (v4 &&& 31)) - (1 : Int32))), some (.inl (0 : Int32)), none, none] [] (by decide +kernel) rfl ?_
      refine s_lsub (ls' := [some (.inr (.inr x0)), none, some (.inl x1), some (.inl (0 : Int32)), some (.inl (((1 : Int32) <<< (v4 &&& 31)) - (1 : Int32))), some (.inl (0 : Int32)), none, none]) ⟨rfl, ⟨rfl, ⟨rfl, ⟨rfl, ⟨rfl, trivial⟩⟩⟩⟩⟩ ?_
      refine sim_bind (L_X10_restAt_31 M x0 x1 (0 : Int32) (((1 : Int32) <<< (v4 &&& 31)) - (1 : Int32)) (0 : Int32) _ (fun r5 => ?_))
      change Sim l G Y_X10_restAt lim _ _ 115 [none, none, none, some (.inl r5), none, none, none, none] [] M
      refine s_run (b := [(.iload_n 3, 1)]) 116 [none, none, none, some (.inl r5), none, none, none, none] [.inl r5] (by decide +kernel) rfl ?_
      exact s_iret (by decide +kernel) rfl
    · skip
      refine s_run (b := [(.iconst (-1), 1)]) 13 [some (.inr (.inr x0)), some (.inl x1), none, none, none, none, none, none] [.inl (-1 : Int32)] (by decide +kernel) rfl ?_
      exact s_iret (by decide +kernel) rfl
set_option maxRecDepth 20000 in
theorem c_X10_restAt {l : Launch} {G : Gv} {M : Mem} {x0 : Nat} {x1 : Int32} {z : Int32} (h : f_X10_restAt M x0 x1 = some z) : MetS l G Y_X10_restAt [.inr (.inr x0), .inl x1] M (some (.int z)) M :=
  met_of (ls0 := [some (.inr (.inr x0)), some (.inl x1), none, none, none, none, none, none]) (by decide) rfl (lv_in (m := 6) rfl) (sl_le (Nat.le_of_ble_eq_true rfl)) (by rw [h]; rfl) (Or.inl ⟨rfl, rfl⟩) (S_X10_restAt M x0 x1)
def f_X11_rest (M : Mem) (x0 : Nat) (x1 : Int32) (x2 : Int32) (x3 : Int32) (x4 : Int32) : Option (Int32 × Mem) :=
  (gR M 11 x0 0).bind fun v1 =>
  (ob M 9 v1).bind fun _ => (f_X9_officeAt M v1 x1).bind fun v2 =>
  (if v2 = 0 then
    some ((-1 : Int32), M)
  else
    (ob M 5 v2).bind fun _ => (f_X5_hasDesk M v2 x2).bind fun v4 =>
    (if v4 = 0 then
      some ((-1 : Int32), M)
    else
      (if x3 < 0 then
        some ((-1 : Int32), M)
      else
        (if x3 ≤ (99 : Int32) then
          (gR M 11 x0 7).bind fun v8 =>
          (ob M 10 v8).bind fun _ => (f_X10_begin M v8 v2 x2 x3 (8 : Int32)).bind fun z9 =>
          (if x4 = (-1 : Int32) then
            (gR z9 11 x0 7).bind fun v11 =>
            (ob z9 10 v11).bind fun _ => (f_X10_howMany z9 v11).bind fun v12 =>
            some (v12, z9)
          else
            (if x4 = (-2 : Int32) then
              (gR z9 11 x0 7).bind fun v14 =>
              (ob z9 10 v14).bind fun _ => (f_X10_quickest z9 v14).bind fun v15 =>
              some (v15, z9)
            else
              (gR z9 11 x0 7).bind fun v16 =>
              (ob z9 10 v16).bind fun _ => (f_X10_restAt z9 v16 x4).bind fun v17 =>
              some (v17, z9)))
        else
          some ((-1 : Int32), M)))))
set_option maxRecDepth 20000 in
theorem S_X11_rest {l : Launch} {G : Gv} {lim : Nat × Nat} (M : Mem) (x0 : Nat) (x1 : Int32) (x2 : Int32) (x3 : Int32) (x4 : Int32) : Sim l G Y_X11_rest lim (f_X11_rest M x0 x1 x2 x3 x4) (fun z => some (some (.int z.1), z.2)) 0 [some (.inr (.inr x0)), some (.inl x1), some (.inl x2), some (.inl x3), some (.inl x4), none] [] M := by
  unfold f_X11_rest
  refine s_run (b := [(.aload_n 0, 1)]) 1 [some (.inr (.inr x0)), some (.inl x1), some (.inl x2), some (.inl x3), some (.inl x4), none] [.inr (.inr x0)] (by decide +kernel) rfl ?_
  refine s_gR fl_11_10 rfl (by decide +kernel) (fun v1 => ?_)
  refine s_run (b := [(.iload_n 1, 1)]) 5 [some (.inr (.inr x0)), some (.inl x1), some (.inl x2), some (.inl x3), some (.inl x4), none] [.inl x1, .inr (.inr v1)] (by decide +kernel) rfl ?_
  refine s_cV (Z := Y_X9_officeAt) (c := 9) (vs := [.inl x1]) (st := []) (rO := fun z => some (.inr (.inr z))) (mO := fun _ => M) zk_X9_officeAt zi_X9_officeAt q716 rfl ⟨by decide, by decide⟩ ⟨rfl, rfl⟩ rfl rfl (Nat.le_of_ble_eq_true rfl) (by decide +kernel) (fun z hz => c_X9_officeAt hz) (fun v2 => ?_)
  change Sim l G Y_X11_rest lim _ _ 8 [some (.inr (.inr x0)), some (.inl x1), some (.inl x2), some (.inl x3), some (.inl x4), none] [.inr (.inr v2)] M
  refine s_run (b := [(.astore 5, 2), (.aload 5, 2)]) 12 [some (.inr (.inr x0)), some (.inl x1), some (.inl x2), some (.inl x3), some (.inl x4), some (.inr (.inr v2))] [.inr (.inr v2)] (by decide +kernel) rfl ?_
  refine s_ifnull (tgt := 34) (off := 22) (by decide +kernel) (by decide) (fun h3 => ?_) (fun h3 => ?_)
  · skip
    refine s_run (b := [(.iconst (-1), 1)]) 35 [some (.inr (.inr x0)), some (.inl x1), some (.inl x2), some (.inl x3), some (.inl x4), some (.inr (.inr v2))] [.inl (-1 : Int32)] (by decide +kernel) rfl ?_
    exact s_iret (by decide +kernel) rfl
  · skip
    refine s_run (b := [(.aload 5, 2), (.iload_n 2, 1)]) 18 [some (.inr (.inr x0)), some (.inl x1), some (.inl x2), some (.inl x3), some (.inl x4), some (.inr (.inr v2))] [.inl x2, .inr (.inr v2)] (by decide +kernel) rfl ?_
    refine s_cV (Z := Y_X5_hasDesk) (c := 5) (vs := [.inl x2]) (st := []) (rO := fun z => some (.inl z)) (mO := fun _ => M) zk_X5_hasDesk zi_X5_hasDesk q845 rfl ⟨by decide, by decide⟩ ⟨rfl, rfl⟩ rfl rfl (Nat.le_of_ble_eq_true rfl) (by decide +kernel) (fun z hz => c_X5_hasDesk hz) (fun v4 => ?_)
    change Sim l G Y_X11_rest lim _ _ 21 [some (.inr (.inr x0)), some (.inl x1), some (.inl x2), some (.inl x3), some (.inl x4), some (.inr (.inr v2))] [.inl v4] M
    refine s_if_eq (tgt := 34) (off := 13) (by decide +kernel) (by decide) (fun h5 => ?_) (fun h5 => ?_)
    · skip
      refine s_run (b := [(.iconst (-1), 1)]) 35 [some (.inr (.inr x0)), some (.inl x1), some (.inl x2), some (.inl x3), some (.inl x4), some (.inr (.inr v2))] [.inl (-1 : Int32)] (by decide +kernel) rfl ?_
      exact s_iret (by decide +kernel) rfl
    · skip
      refine s_run (b := [(.iload_n 3, 1)]) 25 [some (.inr (.inr x0)), some (.inl x1), some (.inl x2), some (.inl x3), some (.inl x4), some (.inr (.inr v2))] [.inl x3] (by decide +kernel) rfl ?_
      refine s_if_lt (tgt := 34) (off := 9) (by decide +kernel) (by decide) (fun h6 => ?_) (fun h6 => ?_)
      · skip
        refine s_run (b := [(.iconst (-1), 1)]) 35 [some (.inr (.inr x0)), some (.inl x1), some (.inl x2), some (.inl x3), some (.inl x4), some (.inr (.inr v2))] [.inl (-1 : Int32)] (by decide +kernel) rfl ?_
        exact s_iret (by decide +kernel) rfl
      · skip
        refine s_run (b := [(.iload_n 3, 1), (.bipush 99, 2)]) 31 [some (.inr (.inr x0)), some (.inl x1), some (.inl x2), some (.inl x3), some (.inl x4), some (.inr (.inr v2))] [.inl (99 : Int32), .inl x3] (by decide +kernel) rfl ?_
        refine s_ic_le (tgt := 36) (off := 5) (by decide +kernel) (by decide) (fun h7 => ?_) (fun h7 => ?_)
        · skip
          refine s_run (b := [(.aload_n 0, 1)]) 37 [some (.inr (.inr x0)), some (.inl x1), some (.inl x2), some (.inl x3), some (.inl x4), some (.inr (.inr v2))] [.inr (.inr x0)] (by decide +kernel) rfl ?_
          refine s_gR fl_11_55 rfl (by decide +kernel) (fun v8 => ?_)
          refine s_run (b := [(.aload 5, 2), (.iload_n 2, 1), (.iload_n 3, 1), (.bipush 8, 2)]) 46 [some (.inr (.inr x0)), some (.inl x1), some (.inl x2), some (.inl x3), some (.inl x4), some (.inr (.inr v2))] [.inl (8 : Int32), .inl x3, .inl x2, .inr (.inr v2), .inr (.inr v8)] (by decide +kernel) rfl ?_
          refine s_cV (Z := Y_X10_begin) (c := 10) (vs := [.inr (.inr v2), .inl x2, .inl x3, .inl (8 : Int32)]) (st := []) (rO := fun _ => none) (mO := fun z => z) zk_X10_begin zi_X10_begin q905 rfl ⟨by decide, by decide⟩ ⟨rfl, rfl⟩ rfl rfl (Nat.le_of_ble_eq_true rfl) (by decide +kernel) (fun z hz => c_X10_begin hz) (fun z9 => ?_)
          change Sim l G Y_X11_rest lim _ _ 49 [some (.inr (.inr x0)), some (.inl x1), some (.inl x2), some (.inl x3), some (.inl x4), some (.inr (.inr v2))] [] z9
          refine s_run (b := [(.iload 4, 2), (.iconst (-1), 1)]) 52 [some (.inr (.inr x0)), some (.inl x1), some (.inl x2), some (.inl x3), some (.inl x4), some (.inr (.inr v2))] [.inl (-1 : Int32), .inl x4] (by decide +kernel) rfl ?_
          refine s_ic_ne (tgt := 63) (off := 11) (by decide +kernel) (by decide) (fun h10 => ?_) (fun h10 => ?_)
          · skip
            refine s_run (b := [(.aload_n 0, 1)]) 56 [some (.inr (.inr x0)), some (.inl x1), some (.inl x2), some (.inl x3), some (.inl x4), some (.inr (.inr v2))] [.inr (.inr x0)] (by decide +kernel) rfl ?_
            refine s_gR fl_11_55 rfl (by decide +kernel) (fun v11 => ?_)
            refine s_cV (Z := Y_X10_howMany) (c := 10) (vs := []) (st := []) (rO := fun z => some (.inl z)) (mO := fun _ => z9) zk_X10_howMany zi_X10_howMany q939 rfl ⟨by decide, by decide⟩ ⟨rfl, rfl⟩ rfl rfl (Nat.le_of_ble_eq_true rfl) (by decide +kernel) (fun z hz => c_X10_howMany hz) (fun v12 => ?_)
            change Sim l G Y_X11_rest lim _ _ 62 [some (.inr (.inr x0)), some (.inl x1), some (.inl x2), some (.inl x3), some (.inl x4), some (.inr (.inr v2))] [.inl v12] z9
            exact s_iret (by decide +kernel) rfl
          · skip
            refine s_run (b := [(.iload 4, 2), (.bipush (-2), 2)]) 67 [some (.inr (.inr x0)), some (.inl x1), some (.inl x2), some (.inl x3), some (.inl x4), some (.inr (.inr v2))] [.inl (-2 : Int32), .inl x4] (by decide +kernel) rfl ?_
            refine s_ic_ne (tgt := 80) (off := 13) (by decide +kernel) (by decide) (fun h13 => ?_) (fun h13 => ?_)
            · skip
              refine s_run (b := [(.aload_n 0, 1)]) 71 [some (.inr (.inr x0)), some (.inl x1), some (.inl x2), some (.inl x3), some (.inl x4), some (.inr (.inr v2))] [.inr (.inr x0)] (by decide +kernel) rfl ?_
              refine s_gR fl_11_55 rfl (by decide +kernel) (fun v14 => ?_)
              refine s_cV (Z := Y_X10_quickest) (c := 10) (vs := []) (st := []) (rO := fun z => some (.inl z)) (mO := fun _ => z9) zk_X10_quickest zi_X10_quickest q948 rfl ⟨by decide, by decide⟩ ⟨rfl, rfl⟩ rfl rfl (Nat.le_of_ble_eq_true rfl) (by decide +kernel) (fun z hz => c_X10_quickest hz) (fun v15 => ?_)
              change Sim l G Y_X11_rest lim _ _ 77 [some (.inr (.inr x0)), some (.inl x1), some (.inl x2), some (.inl x3), some (.inl x4), some (.inr (.inr v2))] [.inl v15] z9
              refine s_run (b := [(.goto 12, 3)]) 89 [some (.inr (.inr x0)), some (.inl x1), some (.inl x2), some (.inl x3), some (.inl x4), some (.inr (.inr v2))] [.inl v15] (by decide +kernel) rfl ?_
              exact s_iret (by decide +kernel) rfl
            · skip
              refine s_run (b := [(.aload_n 0, 1)]) 81 [some (.inr (.inr x0)), some (.inl x1), some (.inl x2), some (.inl x3), some (.inl x4), some (.inr (.inr v2))] [.inr (.inr x0)] (by decide +kernel) rfl ?_
              refine s_gR fl_11_55 rfl (by decide +kernel) (fun v16 => ?_)
              refine s_run (b := [(.iload 4, 2)]) 86 [some (.inr (.inr x0)), some (.inl x1), some (.inl x2), some (.inl x3), some (.inl x4), some (.inr (.inr v2))] [.inl x4, .inr (.inr v16)] (by decide +kernel) rfl ?_
              refine s_cV (Z := Y_X10_restAt) (c := 10) (vs := [.inl x4]) (st := []) (rO := fun z => some (.inl z)) (mO := fun _ => z9) zk_X10_restAt zi_X10_restAt q952 rfl ⟨by decide, by decide⟩ ⟨rfl, rfl⟩ rfl rfl (Nat.le_of_ble_eq_true rfl) (by decide +kernel) (fun z hz => c_X10_restAt hz) (fun v17 => ?_)
              change Sim l G Y_X11_rest lim _ _ 89 [some (.inr (.inr x0)), some (.inl x1), some (.inl x2), some (.inl x3), some (.inl x4), some (.inr (.inr v2))] [.inl v17] z9
              exact s_iret (by decide +kernel) rfl
        · skip
          refine s_run (b := [(.iconst (-1), 1)]) 35 [some (.inr (.inr x0)), some (.inl x1), some (.inl x2), some (.inl x3), some (.inl x4), some (.inr (.inr v2))] [.inl (-1 : Int32)] (by decide +kernel) rfl ?_
          exact s_iret (by decide +kernel) rfl
set_option maxRecDepth 20000 in
theorem c_X11_rest {l : Launch} {G : Gv} {M : Mem} {x0 : Nat} {x1 : Int32} {x2 : Int32} {x3 : Int32} {x4 : Int32} {z : Int32 × Mem} (h : f_X11_rest M x0 x1 x2 x3 x4 = some z) : MetS l G Y_X11_rest [.inr (.inr x0), .inl x1, .inl x2, .inl x3, .inl x4] M (some (.int z.1)) z.2 :=
  met_of (ls0 := [some (.inr (.inr x0)), some (.inl x1), some (.inl x2), some (.inl x3), some (.inl x4), none]) (by decide) rfl (lv_in (m := 1) rfl) (sl_le (Nat.le_of_ble_eq_true rfl)) (by rw [h]; rfl) (Or.inl ⟨rfl, rfl⟩) (S_X11_rest M x0 x1 x2 x3 x4)
def f_X5_roomOf_B6 (M : Mem) (x0 : Nat) (x2 : Int32) (x3 : Int32) : Option ((Int32 × Int32) ⊕ ((Int32))) :=
  (gI M 5 x0 0).bind fun v1 =>
  (if v1 ≤ x3 then
    some (.inr x2)
  else
    (ob M 5 x0).bind fun _ => (f_X5_withHearers M x0 x2).bind fun v3 =>
    some (.inl (v3, (x3 + (1 : Int32)))))
def f_X5_roomOf_L6 (M : Mem) (x0 : Nat) (x2 : Int32) (x3 : Int32) : Option ((Int32)) := iter (fun s : Int32 × Int32 => f_X5_roomOf_B6 M x0 s.1 s.2) 1048576 (x2, x3)
set_option maxRecDepth 20000 in
theorem B_X5_roomOf_6 {l : Launch} {G : Gv} {lim : Nat × Nat} (M : Mem) (x0 : Nat) (x2 : Int32) (x3 : Int32) (K : (Int32 × Int32) ⊕ ((Int32)) → Option (Option Value × Mem)) (kk1 : ∀ (s2 : Int32) (s3 : Int32), SimR l G Y_X5_roomOf lim (K (.inl (s2, s3))) 6 [some (.inr (.inr x0)), none, some (.inl s2), some (.inl s3)] [] M) (kk2_0 : ∀ (s2 : Int32), SimR l G Y_X5_roomOf lim (K (.inr s2)) 26 [none, none, some (.inl s2), none] [] M) : Sim l G Y_X5_roomOf lim (f_X5_roomOf_B6 M x0 x2 x3) K 6 [some (.inr (.inr x0)), none, some (.inl x2), some (.inl x3)] [] M := by
  unfold f_X5_roomOf_B6
  refine s_run (b := [(.iload_n 3, 1), (.aload_n 0, 1)]) 8 [some (.inr (.inr x0)), none, some (.inl x2), some (.inl x3)] [.inr (.inr x0), .inl x3] (by decide +kernel) rfl ?_
  refine s_gI fl_5_45 rfl (by decide +kernel) (fun v1 => ?_)
  refine s_ic_ge (tgt := 26) (off := 15) (by decide +kernel) (by decide) (fun h2 => ?_) (fun h2 => ?_)
  · skip
    exact s_lsub (ls' := [none, none, some (.inl x2), none]) ⟨rfl, trivial⟩ (kk2_0 x2)
  · skip
    refine s_run (b := [(.aload_n 0, 1), (.iload_n 2, 1)]) 16 [some (.inr (.inr x0)), none, some (.inl x2), some (.inl x3)] [.inl x2, .inr (.inr x0)] (by decide +kernel) rfl ?_
    refine s_cV (Z := Y_X5_withHearers) (c := 5) (vs := [.inl x2]) (st := []) (rO := fun z => some (.inl z)) (mO := fun _ => M) zk_X5_withHearers zi_X5_withHearers q1119 rfl ⟨by decide, by decide⟩ ⟨rfl, rfl⟩ rfl rfl (Nat.le_of_ble_eq_true rfl) (by decide +kernel) (fun z hz => c_X5_withHearers hz) (fun v3 => ?_)
    change Sim l G Y_X5_roomOf lim _ _ 19 [some (.inr (.inr x0)), none, some (.inl x2), some (.inl x3)] [.inl v3] M
    refine s_run (b := [(.istore_n 2, 1), (.iinc 3 1, 3), (.goto (-17), 3)]) 6 [some (.inr (.inr x0)), none, some (.inl v3), some (.inl (x3 + (1 : Int32)))] [] (by decide +kernel) rfl ?_
    exact s_lsub (ls' := [some (.inr (.inr x0)), none, some (.inl v3), some (.inl (x3 + (1 : Int32)))]) ⟨rfl, ⟨rfl, ⟨rfl, trivial⟩⟩⟩ (kk1 v3 (x3 + (1 : Int32)))
set_option maxRecDepth 20000 in
theorem L_X5_roomOf_6 {l : Launch} {G : Gv} {lim : Nat × Nat} (M : Mem) (x0 : Nat) (x2 : Int32) (x3 : Int32) (K : ((Int32)) → Option (Option Value × Mem)) (kk2_0 : ∀ r : Int32, SimR l G Y_X5_roomOf lim (K r) 26 [none, none, some (.inl r), none] [] M) : Sim l G Y_X5_roomOf lim (f_X5_roomOf_L6 M x0 x2 x3) K 6 [some (.inr (.inr x0)), none, some (.inl x2), some (.inl x3)] [] M :=
  s_iter (f := fun s : Int32 × Int32 => f_X5_roomOf_B6 M x0 s.1 s.2) (hd := 6) (cl := fun s => [some (.inr (.inr x0)), none, some (.inl s.1), some (.inl s.2)]) (cm := fun s => M) (xp := fun _ => 26) (xl := fun r => [none, none, some (.inl r), none]) (xm := fun r => M) (fun s K h1 h2 => B_X5_roomOf_6 M x0 s.1 s.2 K (fun a2 a3 => h1 (a2, a3)) (fun a2 => h2 a2)) 1048576 (x2, x3) K kk2_0
def f_X5_roomOf (M : Mem) (x0 : Nat) (x1 : Int32) : Option (Int32) :=
  (f_X5_roomOf_L6 M x0 ((1 : Int32) <<< (x1 &&& 31)) (0 : Int32)).bind fun r1 =>
  some r1
set_option maxRecDepth 20000 in
theorem S_X5_roomOf {l : Launch} {G : Gv} {lim : Nat × Nat} (M : Mem) (x0 : Nat) (x1 : Int32) : Sim l G Y_X5_roomOf lim (f_X5_roomOf M x0 x1) (fun z => some (some (.int z), M)) 0 [some (.inr (.inr x0)), some (.inl x1), none, none] [] M := by
  unfold f_X5_roomOf
  refine s_run (b := [(.iconst 1, 1), (.iload_n 1, 1), (.ishl, 1), (.istore_n 2, 1), (.iconst 0, 1), (.istore_n 3, 1)]) 6 [some (.inr (.inr x0)), some (.inl x1), some (.inl ((1 : Int32) <<< (x1 &&& 31))), some (.inl (0 : Int32))] [] (by decide +kernel) rfl ?_
  refine s_lsub (ls' := [some (.inr (.inr x0)), none, some (.inl ((1 : Int32) <<< (x1 &&& 31))), some (.inl (0 : Int32))]) ⟨rfl, ⟨rfl, ⟨rfl, trivial⟩⟩⟩ ?_
  refine sim_bind (L_X5_roomOf_6 M x0 ((1 : Int32) <<< (x1 &&& 31)) (0 : Int32) _ (fun r1 => ?_))
  change Sim l G Y_X5_roomOf lim _ _ 26 [none, none, some (.inl r1), none] [] M
  refine s_run (b := [(.iload_n 2, 1)]) 27 [none, none, some (.inl r1), none] [.inl r1] (by decide +kernel) rfl ?_
  exact s_iret (by decide +kernel) rfl
set_option maxRecDepth 20000 in
theorem c_X5_roomOf {l : Launch} {G : Gv} {M : Mem} {x0 : Nat} {x1 : Int32} {z : Int32} (h : f_X5_roomOf M x0 x1 = some z) : MetS l G Y_X5_roomOf [.inr (.inr x0), .inl x1] M (some (.int z)) M :=
  met_of (ls0 := [some (.inr (.inr x0)), some (.inl x1), none, none]) (by decide) rfl (lv_in (m := 2) rfl) (sl_le (Nat.le_of_ble_eq_true rfl)) (by rw [h]; rfl) (Or.inl ⟨rfl, rfl⟩) (S_X5_roomOf M x0 x1)
def f_X5_largestRoom_B4 (M : Mem) (x0 : Nat) (x1 : Int32) (x2 : Int32) : Option ((Int32 × Int32) ⊕ ((Int32))) :=
  (gI M 5 x0 0).bind fun v1 =>
  (if v1 ≤ x2 then
    some (.inr x1)
  else
    (ob M 5 x0).bind fun _ => (f_X5_roomOf M x0 x2).bind fun v3 =>
    (f_J6_bitCount_0f7a4 M v3).bind fun v4 =>
    some (.inl ((imax x1 v4), (x2 + (1 : Int32)))))
def f_X5_largestRoom_L4 (M : Mem) (x0 : Nat) (x1 : Int32) (x2 : Int32) : Option ((Int32)) := iter (fun s : Int32 × Int32 => f_X5_largestRoom_B4 M x0 s.1 s.2) 1048576 (x1, x2)
set_option maxRecDepth 20000 in
theorem B_X5_largestRoom_4 {l : Launch} {G : Gv} {lim : Nat × Nat} (M : Mem) (x0 : Nat) (x1 : Int32) (x2 : Int32) (K : (Int32 × Int32) ⊕ ((Int32)) → Option (Option Value × Mem)) (kk1 : ∀ (s1 : Int32) (s2 : Int32), SimR l G Y_X5_largestRoom lim (K (.inl (s1, s2))) 4 [some (.inr (.inr x0)), some (.inl s1), some (.inl s2)] [] M) (kk2_0 : ∀ (s1 : Int32), SimR l G Y_X5_largestRoom lim (K (.inr s1)) 31 [none, some (.inl s1), none] [] M) : Sim l G Y_X5_largestRoom lim (f_X5_largestRoom_B4 M x0 x1 x2) K 4 [some (.inr (.inr x0)), some (.inl x1), some (.inl x2)] [] M := by
  unfold f_X5_largestRoom_B4
  refine s_run (b := [(.iload_n 2, 1), (.aload_n 0, 1)]) 6 [some (.inr (.inr x0)), some (.inl x1), some (.inl x2)] [.inr (.inr x0), .inl x2] (by decide +kernel) rfl ?_
  refine s_gI fl_5_45 rfl (by decide +kernel) (fun v1 => ?_)
  refine s_ic_ge (tgt := 31) (off := 22) (by decide +kernel) (by decide) (fun h2 => ?_) (fun h2 => ?_)
  · skip
    exact s_lsub (ls' := [none, some (.inl x1), none]) ⟨rfl, trivial⟩ (kk2_0 x1)
  · skip
    refine s_run (b := [(.iload_n 1, 1), (.aload_n 0, 1), (.iload_n 2, 1)]) 15 [some (.inr (.inr x0)), some (.inl x1), some (.inl x2)] [.inl x2, .inr (.inr x0), .inl x1] (by decide +kernel) rfl ?_
    refine s_cV (Z := Y_X5_roomOf) (c := 5) (vs := [.inl x2]) (st := [.inl x1]) (rO := fun z => some (.inl z)) (mO := fun _ => M) zk_X5_roomOf zi_X5_roomOf q1115 rfl ⟨by decide, by decide⟩ ⟨rfl, rfl⟩ rfl rfl (Nat.le_of_ble_eq_true rfl) (by decide +kernel) (fun z hz => c_X5_roomOf hz) (fun v3 => ?_)
    change Sim l G Y_X5_largestRoom lim _ _ 18 [some (.inr (.inr x0)), some (.inl x1), some (.inl x2)] [.inl v3, .inl x1] M
    refine s_cS (Z := Y_J6_bitCount_0f7a4) (vs := [.inl v3]) (st := [.inl x1]) (rO := fun z => some (.inl z)) (mO := fun _ => M) zk_J6_bitCount_0f7a4 q819 q1123 ⟨by decide, by decide⟩ ⟨rfl, rfl⟩ rfl rfl (Nat.le_of_ble_eq_true rfl) (by decide +kernel) (fun z hz => c_J6_bitCount_0f7a4 hz) (fun v4 => ?_)
    change Sim l G Y_X5_largestRoom lim _ _ 21 [some (.inr (.inr x0)), some (.inl x1), some (.inl x2)] [.inl v4, .inl x1] M
    refine s_imax q817 ⟨Nat.le_of_ble_eq_true rfl, Nat.le_of_ble_eq_true rfl⟩ (by decide +kernel) ?_
    change Sim l G Y_X5_largestRoom lim _ _ 24 [some (.inr (.inr x0)), some (.inl x1), some (.inl x2)] [.inl (imax x1 v4)] M
    refine s_run (b := [(.istore_n 1, 1), (.iinc 2 1, 3), (.goto (-24), 3)]) 4 [some (.inr (.inr x0)), some (.inl (imax x1 v4)), some (.inl (x2 + (1 : Int32)))] [] (by decide +kernel) rfl ?_
    exact s_lsub (ls' := [some (.inr (.inr x0)), some (.inl (imax x1 v4)), some (.inl (x2 + (1 : Int32)))]) ⟨rfl, ⟨rfl, ⟨rfl, trivial⟩⟩⟩ (kk1 (imax x1 v4) (x2 + (1 : Int32)))
set_option maxRecDepth 20000 in
theorem L_X5_largestRoom_4 {l : Launch} {G : Gv} {lim : Nat × Nat} (M : Mem) (x0 : Nat) (x1 : Int32) (x2 : Int32) (K : ((Int32)) → Option (Option Value × Mem)) (kk2_0 : ∀ r : Int32, SimR l G Y_X5_largestRoom lim (K r) 31 [none, some (.inl r), none] [] M) : Sim l G Y_X5_largestRoom lim (f_X5_largestRoom_L4 M x0 x1 x2) K 4 [some (.inr (.inr x0)), some (.inl x1), some (.inl x2)] [] M :=
  s_iter (f := fun s : Int32 × Int32 => f_X5_largestRoom_B4 M x0 s.1 s.2) (hd := 4) (cl := fun s => [some (.inr (.inr x0)), some (.inl s.1), some (.inl s.2)]) (cm := fun s => M) (xp := fun _ => 31) (xl := fun r => [none, some (.inl r), none]) (xm := fun r => M) (fun s K h1 h2 => B_X5_largestRoom_4 M x0 s.1 s.2 K (fun a1 a2 => h1 (a1, a2)) (fun a1 => h2 a1)) 1048576 (x1, x2) K kk2_0
def f_X5_largestRoom (M : Mem) (x0 : Nat) : Option (Int32) :=
  (f_X5_largestRoom_L4 M x0 (0 : Int32) (0 : Int32)).bind fun r1 =>
  some r1
set_option maxRecDepth 20000 in
theorem S_X5_largestRoom {l : Launch} {G : Gv} {lim : Nat × Nat} (M : Mem) (x0 : Nat) : Sim l G Y_X5_largestRoom lim (f_X5_largestRoom M x0) (fun z => some (some (.int z), M)) 0 [some (.inr (.inr x0)), none, none] [] M := by
  unfold f_X5_largestRoom
  refine s_run (b := [(.iconst 0, 1), (.istore_n 1, 1), (.iconst 0, 1), (.istore_n 2, 1)]) 4 [some (.inr (.inr x0)), some (.inl (0 : Int32)), some (.inl (0 : Int32))] [] (by decide +kernel) rfl ?_
  refine s_lsub (ls' := [some (.inr (.inr x0)), some (.inl (0 : Int32)), some (.inl (0 : Int32))]) ⟨rfl, ⟨rfl, ⟨rfl, trivial⟩⟩⟩ ?_
  refine sim_bind (L_X5_largestRoom_4 M x0 (0 : Int32) (0 : Int32) _ (fun r1 => ?_))
  change Sim l G Y_X5_largestRoom lim _ _ 31 [none, some (.inl r1), none] [] M
  refine s_run (b := [(.iload_n 1, 1)]) 32 [none, some (.inl r1), none] [.inl r1] (by decide +kernel) rfl ?_
  exact s_iret (by decide +kernel) rfl
set_option maxRecDepth 20000 in
theorem c_X5_largestRoom {l : Launch} {G : Gv} {M : Mem} {x0 : Nat} {z : Int32} (h : f_X5_largestRoom M x0 = some z) : MetS l G Y_X5_largestRoom [.inr (.inr x0)] M (some (.int z)) M :=
  met_of (ls0 := [some (.inr (.inr x0)), none, none]) (by decide) rfl (lv_in (m := 2) rfl) (sl_le (Nat.le_of_ble_eq_true rfl)) (by rw [h]; rfl) (Or.inl ⟨rfl, rfl⟩) (S_X5_largestRoom M x0)
def f_X5_roomCount_B6 (M : Mem) (x0 : Nat) (x1 : Int32) (x2 : Int32) (x3 : Int32) : Option ((Int32 × Int32 × Int32) ⊕ ((Int32))) :=
  (gI M 5 x0 0).bind fun v1 =>
  (if v1 ≤ x3 then
    some (.inr x2)
  else
    (if ((x1 >>> (x3 &&& 31)) &&& (1 : Int32)) = 0 then
      (ob M 5 x0).bind fun _ => (f_X5_roomOf M x0 x3).bind fun v4 =>
      some (.inl ((x1 ||| v4), (x2 + (1 : Int32)), (x3 + (1 : Int32))))
    else
      some (.inl (x1, x2, (x3 + (1 : Int32))))))
def f_X5_roomCount_L6 (M : Mem) (x0 : Nat) (x1 : Int32) (x2 : Int32) (x3 : Int32) : Option ((Int32)) := iter (fun s : Int32 × Int32 × Int32 => f_X5_roomCount_B6 M x0 s.1 s.2.1 s.2.2) 1048576 (x1, x2, x3)
set_option maxRecDepth 20000 in
theorem B_X5_roomCount_6 {l : Launch} {G : Gv} {lim : Nat × Nat} (M : Mem) (x0 : Nat) (x1 : Int32) (x2 : Int32) (x3 : Int32) (K : (Int32 × Int32 × Int32) ⊕ ((Int32)) → Option (Option Value × Mem)) (kk1 : ∀ (s1 : Int32) (s2 : Int32) (s3 : Int32), SimR l G Y_X5_roomCount lim (K (.inl (s1, s2, s3))) 6 [some (.inr (.inr x0)), some (.inl s1), some (.inl s2), some (.inl s3)] [] M) (kk2_0 : ∀ (s2 : Int32), SimR l G Y_X5_roomCount lim (K (.inr s2)) 39 [none, none, some (.inl s2), none] [] M) : Sim l G Y_X5_roomCount lim (f_X5_roomCount_B6 M x0 x1 x2 x3) K 6 [some (.inr (.inr x0)), some (.inl x1), some (.inl x2), some (.inl x3)] [] M := by
  unfold f_X5_roomCount_B6
  refine s_run (b := [(.iload_n 3, 1), (.aload_n 0, 1)]) 8 [some (.inr (.inr x0)), some (.inl x1), some (.inl x2), some (.inl x3)] [.inr (.inr x0), .inl x3] (by decide +kernel) rfl ?_
  refine s_gI fl_5_45 rfl (by decide +kernel) (fun v1 => ?_)
  refine s_ic_ge (tgt := 39) (off := 28) (by decide +kernel) (by decide) (fun h2 => ?_) (fun h2 => ?_)
  · skip
    exact s_lsub (ls' := [none, none, some (.inl x2), none]) ⟨rfl, trivial⟩ (kk2_0 x2)
  · skip
    refine s_run (b := [(.iload_n 1, 1), (.iload_n 3, 1), (.ishr, 1), (.iconst 1, 1), (.iand, 1)]) 19 [some (.inr (.inr x0)), some (.inl x1), some (.inl x2), some (.inl x3)] [.inl ((x1 >>> (x3 &&& 31)) &&& (1 : Int32))] (by decide +kernel) rfl ?_
    refine s_if_ne (tgt := 33) (off := 14) (by decide +kernel) (by decide) (fun h3 => ?_) (fun h3 => ?_)
    · skip
      refine s_run (b := [(.iload_n 1, 1), (.aload_n 0, 1), (.iload_n 3, 1)]) 25 [some (.inr (.inr x0)), some (.inl x1), some (.inl x2), some (.inl x3)] [.inl x3, .inr (.inr x0), .inl x1] (by decide +kernel) rfl ?_
      refine s_cV (Z := Y_X5_roomOf) (c := 5) (vs := [.inl x3]) (st := [.inl x1]) (rO := fun z => some (.inl z)) (mO := fun _ => M) zk_X5_roomOf zi_X5_roomOf q1115 rfl ⟨by decide, by decide⟩ ⟨rfl, rfl⟩ rfl rfl (Nat.le_of_ble_eq_true rfl) (by decide +kernel) (fun z hz => c_X5_roomOf hz) (fun v4 => ?_)
      change Sim l G Y_X5_roomCount lim _ _ 28 [some (.inr (.inr x0)), some (.inl x1), some (.inl x2), some (.inl x3)] [.inl v4, .inl x1] M
      refine s_run (b := [(.ior, 1), (.istore_n 1, 1), (.iinc 2 1, 3), (.iinc 3 1, 3), (.goto (-30), 3)]) 6 [some (.inr (.inr x0)), some (.inl (x1 ||| v4)), some (.inl (x2 + (1 : Int32))), some (.inl (x3 + (1 : Int32)))] [] (by decide +kernel) rfl ?_
      exact s_lsub (ls' := [some (.inr (.inr x0)), some (.inl (x1 ||| v4)), some (.inl (x2 + (1 : Int32))), some (.inl (x3 + (1 : Int32)))]) ⟨rfl, ⟨rfl, ⟨rfl, ⟨rfl, trivial⟩⟩⟩⟩ (kk1 (x1 ||| v4) (x2 + (1 : Int32)) (x3 + (1 : Int32)))
    · skip
      refine s_run (b := [(.iinc 3 1, 3), (.goto (-30), 3)]) 6 [some (.inr (.inr x0)), some (.inl x1), some (.inl x2), some (.inl (x3 + (1 : Int32)))] [] (by decide +kernel) rfl ?_
      exact s_lsub (ls' := [some (.inr (.inr x0)), some (.inl x1), some (.inl x2), some (.inl (x3 + (1 : Int32)))]) ⟨rfl, ⟨rfl, ⟨rfl, ⟨rfl, trivial⟩⟩⟩⟩ (kk1 x1 x2 (x3 + (1 : Int32)))
set_option maxRecDepth 20000 in
theorem L_X5_roomCount_6 {l : Launch} {G : Gv} {lim : Nat × Nat} (M : Mem) (x0 : Nat) (x1 : Int32) (x2 : Int32) (x3 : Int32) (K : ((Int32)) → Option (Option Value × Mem)) (kk2_0 : ∀ r : Int32, SimR l G Y_X5_roomCount lim (K r) 39 [none, none, some (.inl r), none] [] M) : Sim l G Y_X5_roomCount lim (f_X5_roomCount_L6 M x0 x1 x2 x3) K 6 [some (.inr (.inr x0)), some (.inl x1), some (.inl x2), some (.inl x3)] [] M :=
  s_iter (f := fun s : Int32 × Int32 × Int32 => f_X5_roomCount_B6 M x0 s.1 s.2.1 s.2.2) (hd := 6) (cl := fun s => [some (.inr (.inr x0)), some (.inl s.1), some (.inl s.2.1), some (.inl s.2.2)]) (cm := fun s => M) (xp := fun _ => 39) (xl := fun r => [none, none, some (.inl r), none]) (xm := fun r => M) (fun s K h1 h2 => B_X5_roomCount_6 M x0 s.1 s.2.1 s.2.2 K (fun a1 a2 a3 => h1 (a1, a2, a3)) (fun a2 => h2 a2)) 1048576 (x1, x2, x3) K kk2_0
def f_X5_roomCount (M : Mem) (x0 : Nat) : Option (Int32) :=
  (f_X5_roomCount_L6 M x0 (0 : Int32) (0 : Int32) (0 : Int32)).bind fun r1 =>
  some r1
set_option maxRecDepth 20000 in
theorem S_X5_roomCount {l : Launch} {G : Gv} {lim : Nat × Nat} (M : Mem) (x0 : Nat) : Sim l G Y_X5_roomCount lim (f_X5_roomCount M x0) (fun z => some (some (.int z), M)) 0 [some (.inr (.inr x0)), none, none, none] [] M := by
  unfold f_X5_roomCount
  refine s_run (b := [(.iconst 0, 1), (.istore_n 1, 1), (.iconst 0, 1), (.istore_n 2, 1), (.iconst 0, 1), (.istore_n 3, 1)]) 6 [some (.inr (.inr x0)), some (.inl (0 : Int32)), some (.inl (0 : Int32)), some (.inl (0 : Int32))] [] (by decide +kernel) rfl ?_
  refine s_lsub (ls' := [some (.inr (.inr x0)), some (.inl (0 : Int32)), some (.inl (0 : Int32)), some (.inl (0 : Int32))]) ⟨rfl, ⟨rfl, ⟨rfl, ⟨rfl, trivial⟩⟩⟩⟩ ?_
  refine sim_bind (L_X5_roomCount_6 M x0 (0 : Int32) (0 : Int32) (0 : Int32) _ (fun r1 => ?_))
  change Sim l G Y_X5_roomCount lim _ _ 39 [none, none, some (.inl r1), none] [] M
  refine s_run (b := [(.iload_n 2, 1)]) 40 [none, none, some (.inl r1), none] [.inl r1] (by decide +kernel) rfl ?_
  exact s_iret (by decide +kernel) rfl
set_option maxRecDepth 20000 in
theorem c_X5_roomCount {l : Launch} {G : Gv} {M : Mem} {x0 : Nat} {z : Int32} (h : f_X5_roomCount M x0 = some z) : MetS l G Y_X5_roomCount [.inr (.inr x0)] M (some (.int z)) M :=
  met_of (ls0 := [some (.inr (.inr x0)), none, none, none]) (by decide) rfl (lv_in (m := 3) rfl) (sl_le (Nat.le_of_ble_eq_true rfl)) (by rw [h]; rfl) (Or.inl ⟨rfl, rfl⟩) (S_X5_roomCount M x0)
def f_X11_rooms (M : Mem) (x0 : Nat) (x1 : Int32) (x2 : Int32) : Option (Int32) :=
  (gR M 11 x0 0).bind fun v1 =>
  (ob M 9 v1).bind fun _ => (f_X9_officeAt M v1 x1).bind fun v2 =>
  (if v2 = 0 then
    some (-1 : Int32)
  else
    (if x2 = 0 then
      (ob M 5 v2).bind fun _ => (f_X5_roomCount M v2).bind fun v5 =>
      some v5
    else
      (ob M 5 v2).bind fun _ => (f_X5_largestRoom M v2).bind fun v6 =>
      some v6))
set_option maxRecDepth 20000 in
theorem S_X11_rooms {l : Launch} {G : Gv} {lim : Nat × Nat} (M : Mem) (x0 : Nat) (x1 : Int32) (x2 : Int32) : Sim l G Y_X11_rooms lim (f_X11_rooms M x0 x1 x2) (fun z => some (some (.int z), M)) 0 [some (.inr (.inr x0)), some (.inl x1), some (.inl x2), none] [] M := by
  unfold f_X11_rooms
  refine s_run (b := [(.aload_n 0, 1)]) 1 [some (.inr (.inr x0)), some (.inl x1), some (.inl x2), none] [.inr (.inr x0)] (by decide +kernel) rfl ?_
  refine s_gR fl_11_10 rfl (by decide +kernel) (fun v1 => ?_)
  refine s_run (b := [(.iload_n 1, 1)]) 5 [some (.inr (.inr x0)), some (.inl x1), some (.inl x2), none] [.inl x1, .inr (.inr v1)] (by decide +kernel) rfl ?_
  refine s_cV (Z := Y_X9_officeAt) (c := 9) (vs := [.inl x1]) (st := []) (rO := fun z => some (.inr (.inr z))) (mO := fun _ => M) zk_X9_officeAt zi_X9_officeAt q716 rfl ⟨by decide, by decide⟩ ⟨rfl, rfl⟩ rfl rfl (Nat.le_of_ble_eq_true rfl) (by decide +kernel) (fun z hz => c_X9_officeAt hz) (fun v2 => ?_)
  change Sim l G Y_X11_rooms lim _ _ 8 [some (.inr (.inr x0)), some (.inl x1), some (.inl x2), none] [.inr (.inr v2)] M
  refine s_run (b := [(.astore_n 3, 1), (.aload_n 3, 1)]) 10 [some (.inr (.inr x0)), some (.inl x1), some (.inl x2), some (.inr (.inr v2))] [.inr (.inr v2)] (by decide +kernel) rfl ?_
  refine s_ifnonnull (tgt := 15) (off := 5) (by decide +kernel) (by decide) (fun h3 => ?_) (fun h3 => ?_)
  · skip
    refine s_run (b := [(.iconst (-1), 1)]) 14 [some (.inr (.inr x0)), some (.inl x1), some (.inl x2), some (.inr (.inr v2))] [.inl (-1 : Int32)] (by decide +kernel) rfl ?_
    exact s_iret (by decide +kernel) rfl
  · skip
    refine s_run (b := [(.iload_n 2, 1)]) 16 [some (.inr (.inr x0)), some (.inl x1), some (.inl x2), some (.inr (.inr v2))] [.inl x2] (by decide +kernel) rfl ?_
    refine s_if_eq (tgt := 26) (off := 10) (by decide +kernel) (by decide) (fun h4 => ?_) (fun h4 => ?_)
    · skip
      refine s_run (b := [(.aload_n 3, 1)]) 27 [some (.inr (.inr x0)), some (.inl x1), some (.inl x2), some (.inr (.inr v2))] [.inr (.inr v2)] (by decide +kernel) rfl ?_
      refine s_cV (Z := Y_X5_roomCount) (c := 5) (vs := []) (st := []) (rO := fun z => some (.inl z)) (mO := fun _ => M) zk_X5_roomCount zi_X5_roomCount q1124 rfl ⟨by decide, by decide⟩ ⟨rfl, rfl⟩ rfl rfl (Nat.le_of_ble_eq_true rfl) (by decide +kernel) (fun z hz => c_X5_roomCount hz) (fun v5 => ?_)
      change Sim l G Y_X11_rooms lim _ _ 30 [some (.inr (.inr x0)), some (.inl x1), some (.inl x2), some (.inr (.inr v2))] [.inl v5] M
      exact s_iret (by decide +kernel) rfl
    · skip
      refine s_run (b := [(.aload_n 3, 1)]) 20 [some (.inr (.inr x0)), some (.inl x1), some (.inl x2), some (.inr (.inr v2))] [.inr (.inr v2)] (by decide +kernel) rfl ?_
      refine s_cV (Z := Y_X5_largestRoom) (c := 5) (vs := []) (st := []) (rO := fun z => some (.inl z)) (mO := fun _ => M) zk_X5_largestRoom zi_X5_largestRoom q1111 rfl ⟨by decide, by decide⟩ ⟨rfl, rfl⟩ rfl rfl (Nat.le_of_ble_eq_true rfl) (by decide +kernel) (fun z hz => c_X5_largestRoom hz) (fun v6 => ?_)
      change Sim l G Y_X11_rooms lim _ _ 23 [some (.inr (.inr x0)), some (.inl x1), some (.inl x2), some (.inr (.inr v2))] [.inl v6] M
      refine s_run (b := [(.goto 7, 3)]) 30 [some (.inr (.inr x0)), some (.inl x1), some (.inl x2), some (.inr (.inr v2))] [.inl v6] (by decide +kernel) rfl ?_
      exact s_iret (by decide +kernel) rfl
set_option maxRecDepth 20000 in
theorem c_X11_rooms {l : Launch} {G : Gv} {M : Mem} {x0 : Nat} {x1 : Int32} {x2 : Int32} {z : Int32} (h : f_X11_rooms M x0 x1 x2 = some z) : MetS l G Y_X11_rooms [.inr (.inr x0), .inl x1, .inl x2] M (some (.int z)) M :=
  met_of (ls0 := [some (.inr (.inr x0)), some (.inl x1), some (.inl x2), none]) (by decide) rfl (lv_in (m := 1) rfl) (sl_le (Nat.le_of_ble_eq_true rfl)) (by rw [h]; rfl) (Or.inl ⟨rfl, rfl⟩) (S_X11_rooms M x0 x1 x2)
def f_X11_rule (M : Mem) (x0 : Nat) (x1 : Int32) (x2 : Int32) (x3 : Int32) : Option (Int32 × Mem) :=
  (gR M 11 x0 0).bind fun v1 =>
  (ob M 9 v1).bind fun _ => (f_X9_officeAt M v1 x1).bind fun v2 =>
  (if v2 = 0 then
    some ((-1 : Int32), M)
  else
    (if x2 < 0 then
      some ((-1 : Int32), M)
    else
      (if x2 < (4 : Int32) then
        (gR M 11 x0 5).bind fun v6 =>
        (ob M 2 v6).bind fun _ => (f_X2_playRule M v6 v2 x2).bind fun z7 =>
        (if x3 = (0 : Int32) then
          (gR z7 11 x0 5).bind fun v9 =>
          (gI z7 2 v9 1).bind fun v10 =>
          some (v10, z7)
        else
        (if x3 = (1 : Int32) then
          (gR z7 11 x0 5).bind fun v12 =>
          (gI z7 2 v12 2).bind fun v13 =>
          some (v13, z7)
        else
        (if x3 = (2 : Int32) then
          (gR z7 11 x0 5).bind fun v15 =>
          (ob z7 2 v15).bind fun _ => (f_X2_mostHelped z7 v15).bind fun v16 =>
          some (v16, z7)
        else
        (if x3 = (3 : Int32) then
          (gI z7 5 v2 1).bind fun v18 =>
          (gR z7 11 x0 5).bind fun v19 =>
          (gI z7 2 v19 0).bind fun v20 =>
          (f_J6_bitCount_0f7a4 z7 v20).bind fun v21 =>
          some ((v18 - v21), z7)
        else
        some ((-1 : Int32), z7)))))
      else
        some ((-1 : Int32), M))))
set_option maxRecDepth 20000 in
theorem S_X11_rule {l : Launch} {G : Gv} {lim : Nat × Nat} (M : Mem) (x0 : Nat) (x1 : Int32) (x2 : Int32) (x3 : Int32) : Sim l G Y_X11_rule lim (f_X11_rule M x0 x1 x2 x3) (fun z => some (some (.int z.1), z.2)) 0 [some (.inr (.inr x0)), some (.inl x1), some (.inl x2), some (.inl x3), none] [] M := by
  unfold f_X11_rule
  refine s_run (b := [(.aload_n 0, 1)]) 1 [some (.inr (.inr x0)), some (.inl x1), some (.inl x2), some (.inl x3), none] [.inr (.inr x0)] (by decide +kernel) rfl ?_
  refine s_gR fl_11_10 rfl (by decide +kernel) (fun v1 => ?_)
  refine s_run (b := [(.iload_n 1, 1)]) 5 [some (.inr (.inr x0)), some (.inl x1), some (.inl x2), some (.inl x3), none] [.inl x1, .inr (.inr v1)] (by decide +kernel) rfl ?_
  refine s_cV (Z := Y_X9_officeAt) (c := 9) (vs := [.inl x1]) (st := []) (rO := fun z => some (.inr (.inr z))) (mO := fun _ => M) zk_X9_officeAt zi_X9_officeAt q716 rfl ⟨by decide, by decide⟩ ⟨rfl, rfl⟩ rfl rfl (Nat.le_of_ble_eq_true rfl) (by decide +kernel) (fun z hz => c_X9_officeAt hz) (fun v2 => ?_)
  change Sim l G Y_X11_rule lim _ _ 8 [some (.inr (.inr x0)), some (.inl x1), some (.inl x2), some (.inl x3), none] [.inr (.inr v2)] M
  refine s_run (b := [(.astore 4, 2), (.aload 4, 2)]) 12 [some (.inr (.inr x0)), some (.inl x1), some (.inl x2), some (.inl x3), some (.inr (.inr v2))] [.inr (.inr v2)] (by decide +kernel) rfl ?_
  refine s_ifnull (tgt := 24) (off := 12) (by decide +kernel) (by decide) (fun h3 => ?_) (fun h3 => ?_)
  · skip
    refine s_run (b := [(.iconst (-1), 1)]) 25 [some (.inr (.inr x0)), some (.inl x1), some (.inl x2), some (.inl x3), some (.inr (.inr v2))] [.inl (-1 : Int32)] (by decide +kernel) rfl ?_
    exact s_iret (by decide +kernel) rfl
  · skip
    refine s_run (b := [(.iload_n 2, 1)]) 16 [some (.inr (.inr x0)), some (.inl x1), some (.inl x2), some (.inl x3), some (.inr (.inr v2))] [.inl x2] (by decide +kernel) rfl ?_
    refine s_if_lt (tgt := 24) (off := 8) (by decide +kernel) (by decide) (fun h4 => ?_) (fun h4 => ?_)
    · skip
      refine s_run (b := [(.iconst (-1), 1)]) 25 [some (.inr (.inr x0)), some (.inl x1), some (.inl x2), some (.inl x3), some (.inr (.inr v2))] [.inl (-1 : Int32)] (by decide +kernel) rfl ?_
      exact s_iret (by decide +kernel) rfl
    · skip
      refine s_run (b := [(.iload_n 2, 1), (.iconst 4, 1)]) 21 [some (.inr (.inr x0)), some (.inl x1), some (.inl x2), some (.inl x3), some (.inr (.inr v2))] [.inl (4 : Int32), .inl x2] (by decide +kernel) rfl ?_
      refine s_ic_lt (tgt := 26) (off := 5) (by decide +kernel) (by decide) (fun h5 => ?_) (fun h5 => ?_)
      · skip
        refine s_run (b := [(.aload_n 0, 1)]) 27 [some (.inr (.inr x0)), some (.inl x1), some (.inl x2), some (.inl x3), some (.inr (.inr v2))] [.inr (.inr x0)] (by decide +kernel) rfl ?_
        refine s_gR fl_11_41 rfl (by decide +kernel) (fun v6 => ?_)
        refine s_run (b := [(.aload 4, 2), (.iload_n 2, 1)]) 33 [some (.inr (.inr x0)), some (.inl x1), some (.inl x2), some (.inl x3), some (.inr (.inr v2))] [.inl x2, .inr (.inr v2), .inr (.inr v6)] (by decide +kernel) rfl ?_
        refine s_cV (Z := Y_X2_playRule) (c := 2) (vs := [.inr (.inr v2), .inl x2]) (st := []) (rO := fun _ => none) (mO := fun z => z) zk_X2_playRule zi_X2_playRule q1070 rfl ⟨by decide, by decide⟩ ⟨rfl, rfl⟩ rfl rfl (Nat.le_of_ble_eq_true rfl) (by decide +kernel) (fun z hz => c_X2_playRule hz) (fun z7 => ?_)
        change Sim l G Y_X11_rule lim _ _ 36 [some (.inr (.inr x0)), some (.inl x1), some (.inl x2), some (.inl x3), some (.inr (.inr v2))] [] z7
        refine s_run (b := [(.iload_n 3, 1)]) 37 [some (.inr (.inr x0)), some (.inl x1), some (.inl x2), some (.inl x3), some (.inr (.inr v2))] [.inl x3] (by decide +kernel) rfl ?_
        refine s_ite (fun h8 => ?_) (fun h8 => ?_)
        · refine s_tabIn (off := 31) (tgt := 68) (dflt := 72) (lo := 0) (hi := 3) (offs := #[31, 39, 47, 55]) (len := 31) (0 : Int32) (by decide +kernel) h8 rfl rfl rfl (by decide) ?_
          change Sim l G Y_X11_rule lim _ _ 68 [some (.inr (.inr x0)), some (.inl x1), some (.inl x2), some (.inl x3), some (.inr (.inr v2))] [] z7
          refine s_run (b := [(.aload_n 0, 1)]) 69 [some (.inr (.inr x0)), some (.inl x1), some (.inl x2), some (.inl x3), some (.inr (.inr v2))] [.inr (.inr x0)] (by decide +kernel) rfl ?_
          refine s_gR fl_11_41 rfl (by decide +kernel) (fun v9 => ?_)
          refine s_gI fl_11_230 rfl (by decide +kernel) (fun v10 => ?_)
          exact s_iret (by decide +kernel) rfl
        refine s_ite (fun h11 => ?_) (fun h11 => ?_)
        · refine s_tabIn (off := 39) (tgt := 76) (dflt := 72) (lo := 0) (hi := 3) (offs := #[31, 39, 47, 55]) (len := 31) (1 : Int32) (by decide +kernel) h11 rfl rfl rfl (by decide) ?_
          change Sim l G Y_X11_rule lim _ _ 76 [some (.inr (.inr x0)), some (.inl x1), some (.inl x2), some (.inl x3), some (.inr (.inr v2))] [] z7
          refine s_run (b := [(.aload_n 0, 1)]) 77 [some (.inr (.inr x0)), some (.inl x1), some (.inl x2), some (.inl x3), some (.inr (.inr v2))] [.inr (.inr x0)] (by decide +kernel) rfl ?_
          refine s_gR fl_11_41 rfl (by decide +kernel) (fun v12 => ?_)
          refine s_gI fl_11_233 rfl (by decide +kernel) (fun v13 => ?_)
          exact s_iret (by decide +kernel) rfl
        refine s_ite (fun h14 => ?_) (fun h14 => ?_)
        · refine s_tabIn (off := 47) (tgt := 84) (dflt := 72) (lo := 0) (hi := 3) (offs := #[31, 39, 47, 55]) (len := 31) (2 : Int32) (by decide +kernel) h14 rfl rfl rfl (by decide) ?_
          change Sim l G Y_X11_rule lim _ _ 84 [some (.inr (.inr x0)), some (.inl x1), some (.inl x2), some (.inl x3), some (.inr (.inr v2))] [] z7
          refine s_run (b := [(.aload_n 0, 1)]) 85 [some (.inr (.inr x0)), some (.inl x1), some (.inl x2), some (.inl x3), some (.inr (.inr v2))] [.inr (.inr x0)] (by decide +kernel) rfl ?_
          refine s_gR fl_11_41 rfl (by decide +kernel) (fun v15 => ?_)
          refine s_cV (Z := Y_X2_mostHelped) (c := 2) (vs := []) (st := []) (rO := fun z => some (.inl z)) (mO := fun _ => z7) zk_X2_mostHelped zi_X2_mostHelped q1088 rfl ⟨by decide, by decide⟩ ⟨rfl, rfl⟩ rfl rfl (Nat.le_of_ble_eq_true rfl) (by decide +kernel) (fun z hz => c_X2_mostHelped hz) (fun v16 => ?_)
          change Sim l G Y_X11_rule lim _ _ 91 [some (.inr (.inr x0)), some (.inl x1), some (.inl x2), some (.inl x3), some (.inr (.inr v2))] [.inl v16] z7
          exact s_iret (by decide +kernel) rfl
        refine s_ite (fun h17 => ?_) (fun h17 => ?_)
        · refine s_tabIn (off := 55) (tgt := 92) (dflt := 72) (lo := 0) (hi := 3) (offs := #[31, 39, 47, 55]) (len := 31) (3 : Int32) (by decide +kernel) h17 rfl rfl rfl (by decide) ?_
          change Sim l G Y_X11_rule lim _ _ 92 [some (.inr (.inr x0)), some (.inl x1), some (.inl x2), some (.inl x3), some (.inr (.inr v2))] [] z7
          refine s_run (b := [(.aload 4, 2)]) 94 [some (.inr (.inr x0)), some (.inl x1), some (.inl x2), some (.inl x3), some (.inr (.inr v2))] [.inr (.inr v2)] (by decide +kernel) rfl ?_
          refine s_gI fl_11_239 rfl (by decide +kernel) (fun v18 => ?_)
          refine s_run (b := [(.aload_n 0, 1)]) 98 [some (.inr (.inr x0)), some (.inl x1), some (.inl x2), some (.inl x3), some (.inr (.inr v2))] [.inr (.inr x0), .inl v18] (by decide +kernel) rfl ?_
          refine s_gR fl_11_41 rfl (by decide +kernel) (fun v19 => ?_)
          refine s_gI fl_11_242 rfl (by decide +kernel) (fun v20 => ?_)
          refine s_cS (Z := Y_J6_bitCount_0f7a4) (vs := [.inl v20]) (st := [.inl v18]) (rO := fun z => some (.inl z)) (mO := fun _ => z7) zk_J6_bitCount_0f7a4 q819 q1093 ⟨by decide, by decide⟩ ⟨rfl, rfl⟩ rfl rfl (Nat.le_of_ble_eq_true rfl) (by decide +kernel) (fun z hz => c_J6_bitCount_0f7a4 hz) (fun v21 => ?_)
          change Sim l G Y_X11_rule lim _ _ 107 [some (.inr (.inr x0)), some (.inl x1), some (.inl x2), some (.inl x3), some (.inr (.inr v2))] [.inl v21, .inl v18] z7
          refine s_run (b := [(.isub, 1)]) 108 [some (.inr (.inr x0)), some (.inl x1), some (.inl x2), some (.inl x3), some (.inr (.inr v2))] [.inl (v18 - v21)] (by decide +kernel) rfl ?_
          exact s_iret (by decide +kernel) rfl
        refine s_tabOut (tgt := 109) (dflt := 72) (lo := 0) (hi := 3) (offs := #[31, 39, 47, 55]) (len := 31) (by decide +kernel) (tab_out (fun k hk => by rcases (show k = 0 ∨ k = 1 ∨ k = 2 ∨ k = 3 by omega) with rfl | rfl | rfl | rfl <;> first | exact i32_ne h8 (by decide) | exact i32_ne h11 (by decide) | exact i32_ne h14 (by decide) | exact i32_ne h17 (by decide))) (by decide) ?_
        change Sim l G Y_X11_rule lim _ _ 109 [some (.inr (.inr x0)), some (.inl x1), some (.inl x2), some (.inl x3), some (.inr (.inr v2))] [] z7
        refine s_run (b := [(.iconst (-1), 1)]) 110 [some (.inr (.inr x0)), some (.inl x1), some (.inl x2), some (.inl x3), some (.inr (.inr v2))] [.inl (-1 : Int32)] (by decide +kernel) rfl ?_
        exact s_iret (by decide +kernel) rfl
      · skip
        refine s_run (b := [(.iconst (-1), 1)]) 25 [some (.inr (.inr x0)), some (.inl x1), some (.inl x2), some (.inl x3), some (.inr (.inr v2))] [.inl (-1 : Int32)] (by decide +kernel) rfl ?_
        exact s_iret (by decide +kernel) rfl
set_option maxRecDepth 20000 in
theorem c_X11_rule {l : Launch} {G : Gv} {M : Mem} {x0 : Nat} {x1 : Int32} {x2 : Int32} {x3 : Int32} {z : Int32 × Mem} (h : f_X11_rule M x0 x1 x2 x3 = some z) : MetS l G Y_X11_rule [.inr (.inr x0), .inl x1, .inl x2, .inl x3] M (some (.int z.1)) z.2 :=
  met_of (ls0 := [some (.inr (.inr x0)), some (.inl x1), some (.inl x2), some (.inl x3), none]) (by decide) rfl (lv_in (m := 1) rfl) (sl_le (Nat.le_of_ble_eq_true rfl)) (by rw [h]; rfl) (Or.inl ⟨rfl, rfl⟩) (S_X11_rule M x0 x1 x2 x3)
