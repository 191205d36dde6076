def f_X12_passed_B72 (M : Mem) (x0 : Nat) (x3 : Int32) (x4 : Int32) (x5 : Int32) (x7 : Int32) (x6 : Int32) (x8 : Int32) : Option ((Int32 × Int32) ⊕ ((Int32))) :=
  (gI M 12 x0 12).bind fun v1 =>
  (if v1 ≤ x8 then
    some (.inr x6)
  else
    (f_X12_holds M x4 x7).bind fun v3 =>
    (if v3 = 0 then
      some (.inl ((x6 ||| (0 : Int32)), (x8 + (1 : Int32))))
    else
      (ob M 12 x0).bind fun _ => (f_X12_hears M x0 x8 x7).bind fun v5 =>
      (if v5 = 0 then
        some (.inl ((x6 ||| (0 : Int32)), (x8 + (1 : Int32))))
      else
        some (.inl ((x6 ||| ((1 : Int32) <<< (x8 &&& 31))), (x8 + (1 : Int32)))))))
def f_X12_passed_L72 (M : Mem) (x0 : Nat) (x3 : Int32) (x4 : Int32) (x5 : Int32) (x7 : Int32) (x6 : Int32) (x8 : Int32) : Option ((Int32)) := iter (fun s : Int32 × Int32 => f_X12_passed_B72 M x0 x3 x4 x5 x7 s.1 s.2) 1048576 (x6, x8)
set_option maxRecDepth 20000 in
theorem B_X12_passed_72 {l : Launch} {G : Gv} {lim : Nat × Nat} (M : Mem) (x0 : Nat) (x3 : Int32) (x4 : Int32) (x5 : Int32) (x7 : Int32) (x6 : Int32) (x8 : Int32) (K : (Int32 × Int32) ⊕ ((Int32)) → Option (Option Value × Mem)) (kk1 : ∀ (s6 : Int32) (s8 : Int32), SimR l G Y_X12_passed lim (K (.inl (s6, s8))) 72 [some (.inr (.inr x0)), none, none, some (.inl x3), some (.inl x4), some (.inl x5), some (.inl s6), some (.inl x7), some (.inl s8)] [] M) (kk2_0 : ∀ (s6 : Int32), SimR l G Y_X12_passed lim (K (.inr s6)) 121 [some (.inr (.inr x0)), none, none, some (.inl x3), some (.inl x4), some (.inl x5), some (.inl s6), some (.inl x7), none] [] M) : Sim l G Y_X12_passed lim (f_X12_passed_B72 M x0 x3 x4 x5 x7 x6 x8) K 72 [some (.inr (.inr x0)), none, none, some (.inl x3), some (.inl x4), some (.inl x5), some (.inl x6), some (.inl x7), some (.inl x8)] [] M := by
  unfold f_X12_passed_B72
  refine s_run (b := [(.iload 8, 2), (.aload_n 0, 1)]) 75 [some (.inr (.inr x0)), none, none, some (.inl x3), some (.inl x4), some (.inl x5), some (.inl x6), some (.inl x7), some (.inl x8)] [.inr (.inr x0), .inl x8] (by decide +kernel) rfl ?_
  refine s_gI fl_12_162 rfl (by decide +kernel) (fun v1 => ?_)
  refine s_ic_ge (tgt := 121) (off := 43) (by decide +kernel) (by decide) (fun h2 => ?_) (fun h2 => ?_)
  · skip
    exact s_lsub (ls' := [some (.inr (.inr x0)), none, none, some (.inl x3), some (.inl x4), some (.inl x5), some (.inl x6), some (.inl x7), none]) ⟨rfl, ⟨rfl, ⟨rfl, ⟨rfl, ⟨rfl, ⟨rfl, trivial⟩⟩⟩⟩⟩⟩ (kk2_0 x6)
  · skip
    refine s_run (b := [(.iload 6, 2), (.iload 4, 2), (.iload 7, 2)]) 87 [some (.inr (.inr x0)), none, none, some (.inl x3), some (.inl x4), some (.inl x5), some (.inl x6), some (.inl x7), some (.inl x8)] [.inl x7, .inl x4, .inl x6] (by decide +kernel) rfl ?_
    refine s_cS (Z := Y_X12_holds) (vs := [.inl x4, .inl x7]) (st := [.inl x6]) (rO := fun z => some (.inl z)) (mO := fun _ => M) zk_X12_holds q1599 q1598 ⟨by decide, by decide⟩ ⟨rfl, rfl⟩ rfl rfl (Nat.le_of_ble_eq_true rfl) (by decide +kernel) (fun z hz => c_X12_holds hz) (fun v3 => ?_)
    change Sim l G Y_X12_passed lim _ _ 90 [some (.inr (.inr x0)), none, none, some (.inl x3), some (.inl x4), some (.inl x5), some (.inl x6), some (.inl x7), some (.inl x8)] [.inl v3, .inl x6] M
    refine s_if_eq (tgt := 111) (off := 21) (by decide +kernel) (by decide) (fun h4 => ?_) (fun h4 => ?_)
    · skip
      refine s_run (b := [(.iconst 0, 1), (.ior, 1), (.istore 6, 2), (.iinc 8 1, 3), (.goto (-46), 3)]) 72 [some (.inr (.inr x0)), none, none, some (.inl x3), some (.inl x4), some (.inl x5), some (.inl (x6 ||| (0 : Int32))), some (.inl x7), some (.inl (x8 + (1 : Int32)))] [] (by decide +kernel) rfl ?_
      exact s_lsub (ls' := [some (.inr (.inr x0)), none, none, some (.inl x3), some (.inl x4), some (.inl x5), some (.inl (x6 ||| (0 : Int32))), some (.inl x7), some (.inl (x8 + (1 : Int32)))]) ⟨rfl, ⟨rfl, ⟨rfl, ⟨rfl, ⟨rfl, ⟨rfl, ⟨rfl, trivial⟩⟩⟩⟩⟩⟩⟩ (kk1 (x6 ||| (0 : Int32)) (x8 + (1 : Int32)))
    · skip
      refine s_run (b := [(.aload_n 0, 1), (.iload 8, 2), (.iload 7, 2)]) 98 [some (.inr (.inr x0)), none, none, some (.inl x3), some (.inl x4), some (.inl x5), some (.inl x6), some (.inl x7), some (.inl x8)] [.inl x7, .inl x8, .inr (.inr x0), .inl x6] (by decide +kernel) rfl ?_
      refine s_cV (Z := Y_X12_hears) (c := 12) (vs := [.inl x8, .inl x7]) (st := [.inl x6]) (rO := fun z => some (.inl z)) (mO := fun _ => M) zk_X12_hears zi_X12_hears q1609 rfl ⟨by decide, by decide⟩ ⟨rfl, rfl⟩ rfl rfl (Nat.le_of_ble_eq_true rfl) (by decide +kernel) (fun z hz => c_X12_hears hz) (fun v5 => ?_)
      change Sim l G Y_X12_passed lim _ _ 101 [some (.inr (.inr x0)), none, none, some (.inl x3), some (.inl x4), some (.inl x5), some (.inl x6), some (.inl x7), some (.inl x8)] [.inl v5, .inl x6] M
      refine s_if_eq (tgt := 111) (off := 10) (by decide +kernel) (by decide) (fun h6 => ?_) (fun h6 => ?_)
      · skip
        refine s_run (b := [(.iconst 0, 1), (.ior, 1), (.istore 6, 2), (.iinc 8 1, 3), (.goto (-46), 3)]) 72 [some (.inr (.inr x0)), none, none, some (.inl x3), some (.inl x4), some (.inl x5), some (.inl (x6 ||| (0 : Int32))), some (.inl x7), some (.inl (x8 + (1 : Int32)))] [] (by decide +kernel) rfl ?_
        exact s_lsub (ls' := [some (.inr (.inr x0)), none, none, some (.inl x3), some (.inl x4), some (.inl x5), some (.inl (x6 ||| (0 : Int32))), some (.inl x7), some (.inl (x8 + (1 : Int32)))]) ⟨rfl, ⟨rfl, ⟨rfl, ⟨rfl, ⟨rfl, ⟨rfl, ⟨rfl, trivial⟩⟩⟩⟩⟩⟩⟩ (kk1 (x6 ||| (0 : Int32)) (x8 + (1 : Int32)))
      · skip
        refine s_run (b := [(.iconst 1, 1), (.iload 8, 2), (.ishl, 1), (.goto 4, 3), (.ior, 1), (.istore 6, 2), (.iinc 8 1, 3), (.goto (-46), 3)]) 72 [some (.inr (.inr x0)), none, none, some (.inl x3), some (.inl x4), some (.inl x5), some (.inl (x6 ||| ((1 : Int32) <<< (x8 &&& 31)))), some (.inl x7), some (.inl (x8 + (1 : Int32)))] [] (by decide +kernel) rfl ?_
        exact s_lsub (ls' := [some (.inr (.inr x0)), none, none, some (.inl x3), some (.inl x4), some (.inl x5), some (.inl (x6 ||| ((1 : Int32) <<< (x8 &&& 31)))), some (.inl x7), some (.inl (x8 + (1 : Int32)))]) ⟨rfl, ⟨rfl, ⟨rfl, ⟨rfl, ⟨rfl, ⟨rfl, ⟨rfl, trivial⟩⟩⟩⟩⟩⟩⟩ (kk1 (x6 ||| ((1 : Int32) <<< (x8 &&& 31))) (x8 + (1 : Int32)))
set_option maxRecDepth 20000 in
theorem L_X12_passed_72 {l : Launch} {G : Gv} {lim : Nat × Nat} (M : Mem) (x0 : Nat) (x3 : Int32) (x4 : Int32) (x5 : Int32) (x7 : Int32) (x6 : Int32) (x8 : Int32) (K : ((Int32)) → Option (Option Value × Mem)) (kk2_0 : ∀ r : Int32, SimR l G Y_X12_passed lim (K r) 121 [some (.inr (.inr x0)), none, none, some (.inl x3), some (.inl x4), some (.inl x5), some (.inl r), some (.inl x7), none] [] M) : Sim l G Y_X12_passed lim (f_X12_passed_L72 M x0 x3 x4 x5 x7 x6 x8) K 72 [some (.inr (.inr x0)), none, none, some (.inl x3), some (.inl x4), some (.inl x5), some (.inl x6), some (.inl x7), some (.inl x8)] [] M :=
  s_iter (f := fun s : Int32 × Int32 => f_X12_passed_B72 M x0 x3 x4 x5 x7 s.1 s.2) (hd := 72) (cl := fun s => [some (.inr (.inr x0)), none, none, some (.inl x3), some (.inl x4), some (.inl x5), some (.inl s.1), some (.inl x7), some (.inl s.2)]) (cm := fun s => M) (xp := fun _ => 121) (xl := fun r => [some (.inr (.inr x0)), none, none, some (.inl x3), some (.inl x4), some (.inl x5), some (.inl r), some (.inl x7), none]) (xm := fun r => M) (fun s K h1 h2 => B_X12_passed_72 M x0 x3 x4 x5 x7 s.1 s.2 K (fun a6 a8 => h1 (a6, a8)) (fun a6 => h2 a6)) 1048576 (x6, x8) K kk2_0
def f_X12_passed_B60 (M : Mem) (x0 : Nat) (x3 : Int32) (x4 : Int32) (x5 : Int32) (x6 : Int32) (x7 : Int32) : Option ((Int32 × Int32) ⊕ ((Int32))) :=
  (gI M 12 x0 12).bind fun v1 =>
  (if v1 ≤ x7 then
    some (.inr x6)
  else
    (f_X12_passed_L72 M x0 x3 x4 x5 x7 x6 (0 : Int32)).bind fun r3 =>
    some (.inl (r3, (x7 + (1 : Int32)))))
def f_X12_passed_L60 (M : Mem) (x0 : Nat) (x3 : Int32) (x4 : Int32) (x5 : Int32) (x6 : Int32) (x7 : Int32) : Option ((Int32)) := iter (fun s : Int32 × Int32 => f_X12_passed_B60 M x0 x3 x4 x5 s.1 s.2) 1048576 (x6, x7)
set_option maxRecDepth 20000 in
theorem B_X12_passed_60 {l : Launch} {G : Gv} {lim : Nat × Nat} (M : Mem) (x0 : Nat) (x3 : Int32) (x4 : Int32) (x5 : Int32) (x6 : Int32) (x7 : Int32) (K : (Int32 × Int32) ⊕ ((Int32)) → Option (Option Value × Mem)) (kk1 : ∀ (s6 : Int32) (s7 : Int32), SimR l G Y_X12_passed lim (K (.inl (s6, s7))) 60 [some (.inr (.inr x0)), none, none, some (.inl x3), some (.inl x4), some (.inl x5), some (.inl s6), some (.inl s7), none] [] M) (kk2_0 : ∀ (s6 : Int32), SimR l G Y_X12_passed lim (K (.inr s6)) 127 [some (.inr (.inr x0)), none, none, some (.inl x3), none, some (.inl x5), some (.inl s6), none, none] [] M) : Sim l G Y_X12_passed lim (f_X12_passed_B60 M x0 x3 x4 x5 x6 x7) K 60 [some (.inr (.inr x0)), none, none, some (.inl x3), some (.inl x4), some (.inl x5), some (.inl x6), some (.inl x7), none] [] M := by
  unfold f_X12_passed_B60
  refine s_run (b := [(.iload 7, 2), (.aload_n 0, 1)]) 63 [some (.inr (.inr x0)), none, none, some (.inl x3), some (.inl x4), some (.inl x5), some (.inl x6), some (.inl x7), none] [.inr (.inr x0), .inl x7] (by decide +kernel) rfl ?_
  refine s_gI fl_12_162 rfl (by decide +kernel) (fun v1 => ?_)
  refine s_ic_ge (tgt := 127) (off := 61) (by decide +kernel) (by decide) (fun h2 => ?_) (fun h2 => ?_)
  · skip
    exact s_lsub (ls' := [some (.inr (.inr x0)), none, none, some (.inl x3), none, some (.inl x5), some (.inl x6), none, none]) ⟨rfl, ⟨rfl, ⟨rfl, ⟨rfl, trivial⟩⟩⟩⟩ (kk2_0 x6)
  · skip
    refine s_run (b := [(.iconst 0, 1), (.istore 8, 2)]) 72 [some (.inr (.inr x0)), none, none, some (.inl x3), some (.inl x4), some (.inl x5), some (.inl x6), some (.inl x7), some (.inl (0 : Int32))] [] (by decide +kernel) rfl ?_
    refine s_lsub (ls' := [some (.inr (.inr x0)), none, none, some (.inl x3), some (.inl x4), some (.inl x5), some (.inl x6), some (.inl x7), some (.inl (0 : Int32))]) ⟨rfl, ⟨rfl, ⟨rfl, ⟨rfl, ⟨rfl, ⟨rfl, ⟨rfl, trivial⟩⟩⟩⟩⟩⟩⟩ ?_
    refine sim_bind (L_X12_passed_72 M x0 x3 x4 x5 x7 x6 (0 : Int32) _ (fun r3 => ?_))
    change Sim l G Y_X12_passed lim _ _ 121 [some (.inr (.inr x0)), none, none, some (.inl x3), some (.inl x4), some (.inl x5), some (.inl r3), some (.inl x7), none] [] M
    refine s_run (b := [(.iinc 7 1, 3), (.goto (-64), 3)]) 60 [some (.inr (.inr x0)), none, none, some (.inl x3), some (.inl x4), some (.inl x5), some (.inl r3), some (.inl (x7 + (1 : Int32))), none] [] (by decide +kernel) rfl ?_
    exact s_lsub (ls' := [some (.inr (.inr x0)), none, none, some (.inl x3), some (.inl x4), some (.inl x5), some (.inl r3), some (.inl (x7 + (1 : Int32))), none]) ⟨rfl, ⟨rfl, ⟨rfl, ⟨rfl, ⟨rfl, ⟨rfl, trivial⟩⟩⟩⟩⟩⟩ (kk1 r3 (x7 + (1 : Int32)))
set_option maxRecDepth 20000 in
theorem L_X12_passed_60 {l : Launch} {G : Gv} {lim : Nat × Nat} (M : Mem) (x0 : Nat) (x3 : Int32) (x4 : Int32) (x5 : Int32) (x6 : Int32) (x7 : Int32) (K : ((Int32)) → Option (Option Value × Mem)) (kk2_0 : ∀ r : Int32, SimR l G Y_X12_passed lim (K r) 127 [some (.inr (.inr x0)), none, none, some (.inl x3), none, some (.inl x5), some (.inl r), none, none] [] M) : Sim l G Y_X12_passed lim (f_X12_passed_L60 M x0 x3 x4 x5 x6 x7) K 60 [some (.inr (.inr x0)), none, none, some (.inl x3), some (.inl x4), some (.inl x5), some (.inl x6), some (.inl x7), none] [] M :=
  s_iter (f := fun s : Int32 × Int32 => f_X12_passed_B60 M x0 x3 x4 x5 s.1 s.2) (hd := 60) (cl := fun s => [some (.inr (.inr x0)), none, none, some (.inl x3), some (.inl x4), some (.inl x5), some (.inl s.1), some (.inl s.2), none]) (cm := fun s => M) (xp := fun _ => 127) (xl := fun r => [some (.inr (.inr x0)), none, none, some (.inl x3), none, some (.inl x5), some (.inl r), none, none]) (xm := fun r => M) (fun s K h1 h2 => B_X12_passed_60 M x0 x3 x4 x5 s.1 s.2 K (fun a6 a7 => h1 (a6, a7)) (fun a6 => h2 a6)) 1048576 (x6, x7) K kk2_0
def f_X12_passed_B34 (M : Mem) (x0 : Nat) (x3 : Int32) (x4 : Int32) (x5 : Int32) : Option ((Int32 × Int32) ⊕ ((Int32) ⊕ (Unit))) :=
  (if (8 : Int32) ≤ x5 then
    some (.inr (.inr ()))
  else
    (f_X12_holds M x4 x3).bind fun v2 =>
    (if v2 = 0 then
      (f_X12_passed_L60 M x0 x3 x4 x5 x4 (0 : Int32)).bind fun r4 =>
      some (.inl (r4, (x5 + (1 : Int32))))
    else
      some (.inr (.inl x5))))
def f_X12_passed_L34 (M : Mem) (x0 : Nat) (x3 : Int32) (x4 : Int32) (x5 : Int32) : Option ((Int32) ⊕ (Unit)) := iter (fun s : Int32 × Int32 => f_X12_passed_B34 M x0 x3 s.1 s.2) 1048576 (x4, x5)
set_option maxRecDepth 20000 in
theorem B_X12_passed_34 {l : Launch} {G : Gv} {lim : Nat × Nat} (M : Mem) (x0 : Nat) (x3 : Int32) (x4 : Int32) (x5 : Int32) (K : (Int32 × Int32) ⊕ ((Int32) ⊕ (Unit)) → Option (Option Value × Mem)) (kk1 : ∀ (s4 : Int32) (s5 : Int32), SimR l G Y_X12_passed lim (K (.inl (s4, s5))) 34 [some (.inr (.inr x0)), none, none, some (.inl x3), some (.inl s4), some (.inl s5), none, none, none] [] M) (kk2_0 : ∀ (s5 : Int32), SimR l G Y_X12_passed lim (K (.inr (.inl s5))) 50 [none, none, none, none, none, some (.inl s5), none, none, none] [] M) (kk2_1 : SimR l G Y_X12_passed lim (K (.inr (.inr ()))) 137 [none, none, none, none, none, none, none, none, none] [] M) : Sim l G Y_X12_passed lim (f_X12_passed_B34 M x0 x3 x4 x5) K 34 [some (.inr (.inr x0)), none, none, some (.inl x3), some (.inl x4), some (.inl x5), none, none, none] [] M := by
  unfold f_X12_passed_B34
  refine s_run (b := [(.iload 5, 2), (.bipush 8, 2)]) 38 [some (.inr (.inr x0)), none, none, some (.inl x3), some (.inl x4), some (.inl x5), none, none, none] [.inl (8 : Int32), .inl x5] (by decide +kernel) rfl ?_
  refine s_ic_ge (tgt := 137) (off := 99) (by decide +kernel) (by decide) (fun h1 => ?_) (fun h1 => ?_)
  · skip
    exact s_lsub (ls' := [none, none, none, none, none, none, none, none, none]) trivial (kk2_1 )
  · skip
    refine s_run (b := [(.iload 4, 2), (.iload_n 3, 1)]) 44 [some (.inr (.inr x0)), none, none, some (.inl x3), some (.inl x4), some (.inl x5), none, none, none] [.inl x3, .inl x4] (by decide +kernel) rfl ?_
    refine s_cS (Z := Y_X12_holds) (vs := [.inl x4, .inl x3]) (st := []) (rO := fun z => some (.inl z)) (mO := fun _ => M) zk_X12_holds q1599 q1598 ⟨by decide, by decide⟩ ⟨rfl, rfl⟩ rfl rfl (Nat.le_of_ble_eq_true rfl) (by decide +kernel) (fun z hz => c_X12_holds hz) (fun v2 => ?_)
    change Sim l G Y_X12_passed lim _ _ 47 [some (.inr (.inr x0)), none, none, some (.inl x3), some (.inl x4), some (.inl x5), none, none, none] [.inl v2] M
    refine s_if_eq (tgt := 53) (off := 6) (by decide +kernel) (by decide) (fun h3 => ?_) (fun h3 => ?_)
    · skip
      refine s_run (b := [(.iload 4, 2), (.istore 6, 2), (.iconst 0, 1), (.istore 7, 2)]) 60 [some (.inr (.inr x0)), none, none, some (.inl x3), some (.inl x4), some (.inl x5), some (.inl x4), some (.inl (0 : Int32)), none] [] (by decide +kernel) rfl ?_
      refine s_lsub (ls' := [some (.inr (.inr x0)), none, none, some (.inl x3), some (.inl x4), some (.inl x5), some (.inl x4), some (.inl (0 : Int32)), none]) ⟨rfl, ⟨rfl, ⟨rfl, ⟨rfl, ⟨rfl, ⟨rfl, trivial⟩⟩⟩⟩⟩⟩ ?_
      refine sim_bind (L_X12_passed_60 M x0 x3 x4 x5 x4 (0 : Int32) _ (fun r4 => ?_))
      change Sim l G Y_X12_passed lim _ _ 127 [some (.inr (.inr x0)), none, none, some (.inl x3), none, some (.inl x5), some (.inl r4), none, none] [] M
      refine s_run (b := [(.iload 6, 2), (.istore 4, 2), (.iinc 5 1, 3), (.goto (-100), 3)]) 34 [some (.inr (.inr x0)), none, none, some (.inl x3), some (.inl r4), some (.inl (x5 + (1 : Int32))), some (.inl r4), none, none] [] (by decide +kernel) rfl ?_
      exact s_lsub (ls' := [some (.inr (.inr x0)), none, none, some (.inl x3), some (.inl r4), some (.inl (x5 + (1 : Int32))), none, none, none]) ⟨rfl, ⟨rfl, ⟨rfl, ⟨rfl, trivial⟩⟩⟩⟩ (kk1 r4 (x5 + (1 : Int32)))
    · skip
      exact s_lsub (ls' := [none, none, none, none, none, some (.inl x5), none, none, none]) ⟨rfl, trivial⟩ (kk2_0 x5)
set_option maxRecDepth 20000 in
theorem L_X12_passed_34 {l : Launch} {G : Gv} {lim : Nat × Nat} (M : Mem) (x0 : Nat) (x3 : Int32) (x4 : Int32) (x5 : Int32) (K : ((Int32) ⊕ (Unit)) → Option (Option Value × Mem)) (kk2_0 : ∀ r : Int32, SimR l G Y_X12_passed lim (K (.inl r)) 50 [none, none, none, none, none, some (.inl r), none, none, none] [] M) (kk2_1 : ∀ r : Unit, SimR l G Y_X12_passed lim (K (.inr r)) 137 [none, none, none, none, none, none, none, none, none] [] M) : Sim l G Y_X12_passed lim (f_X12_passed_L34 M x0 x3 x4 x5) K 34 [some (.inr (.inr x0)), none, none, some (.inl x3), some (.inl x4), some (.inl x5), none, none, none] [] M :=
  s_iter (f := fun s : Int32 × Int32 => f_X12_passed_B34 M x0 x3 s.1 s.2) (hd := 34) (cl := fun s => [some (.inr (.inr x0)), none, none, some (.inl x3), some (.inl s.1), some (.inl s.2), none, none, none]) (cm := fun s => M) (xp := (fun r => match r with | .inl r => 50 | .inr r => 137)) (xl := (fun r => match r with | .inl r => [none, none, none, none, none, some (.inl r), none, none, none] | .inr r => [none, none, none, none, none, none, none, none, none])) (xm := (fun r => match r with | .inl r => M | .inr r => M)) (fun s K h1 h2 => B_X12_passed_34 M x0 x3 s.1 s.2 K (fun a4 a5 => h1 (a4, a5)) (fun a5 => h2 (.inl a5)) (h2 (.inr ()))) 1048576 (x4, x5) K (fun r => by
    rcases r with r | r
    · exact kk2_0 r
    · exact kk2_1 r)
def f_X12_passed (M : Mem) (x0 : Nat) (x1 : Int32) (x2 : Int32) (x3 : Int32) : Option (Int32 × Mem) :=
  (ob M 12 x0).bind fun _ => (f_X12_isOffice M x0 x1).bind fun z1 =>
  (if z1.1 = 0 then
    some ((-1 : Int32), z1.2)
  else
    (ob z1.2 12 x0).bind fun _ => (f_X12_isDesk z1.2 x0 x2).bind fun v3 =>
    (if v3 = 0 then
      some ((-1 : Int32), z1.2)
    else
      (ob z1.2 12 x0).bind fun _ => (f_X12_isDesk z1.2 x0 x3).bind fun v5 =>
      (if v5 = 0 then
        some ((-1 : Int32), z1.2)
      else
        ((f_X12_passed_L34 z1.2 x0 x3 ((1 : Int32) <<< (x2 &&& 31)) (0 : Int32)).bind fun r7 => match r7 with
        | .inl r7 => some (r7, z1.2)
        | .inr r7 => some ((-1 : Int32), z1.2)))))
set_option maxRecDepth 20000 in
theorem S_X12_passed {l : Launch} {G : Gv} {lim : Nat × Nat} (M : Mem) (x0 : Nat) (x1 : Int32) (x2 : Int32) (x3 : Int32) : Sim l G Y_X12_passed lim (f_X12_passed M x0 x1 x2 x3) (fun z => some (some (.int z.1), z.2)) 0 [some (.inr (.inr x0)), some (.inl x1), some (.inl x2), some (.inl x3), none, none, none, none, none] [] M := by
  unfold f_X12_passed
  refine s_run (b := [(.aload_n 0, 1), (.iload_n 1, 1)]) 2 [some (.inr (.inr x0)), some (.inl x1), some (.inl x2), some (.inl x3), none, none, none, none, none] [.inl x1, .inr (.inr x0)] (by decide +kernel) rfl ?_
  refine s_cV (Z := Y_X12_isOffice) (c := 12) (vs := [.inl x1]) (st := []) (rO := fun z => some (.inl z.1)) (mO := fun z => z.2) zk_X12_isOffice zi_X12_isOffice q1550 rfl ⟨by decide, by decide⟩ ⟨rfl, rfl⟩ rfl rfl (Nat.le_of_ble_eq_true rfl) (by decide +kernel) (fun z hz => c_X12_isOffice hz) (fun z1 => ?_)
  change Sim l G Y_X12_passed lim _ _ 5 [some (.inr (.inr x0)), some (.inl x1), some (.inl x2), some (.inl x3), none, none, none, none, none] [.inl z1.1] z1.2
  refine s_if_eq (tgt := 24) (off := 19) (by decide +kernel) (by decide) (fun h2 => ?_) (fun h2 => ?_)
  · skip
    refine s_run (b := [(.iconst (-1), 1)]) 25 [some (.inr (.inr x0)), some (.inl x1), some (.inl x2), some (.inl x3), none, none, none, none, none] [.inl (-1 : Int32)] (by decide +kernel) rfl ?_
    exact s_iret (by decide +kernel) rfl
  · skip
    refine s_run (b := [(.aload_n 0, 1), (.iload_n 2, 1)]) 10 [some (.inr (.inr x0)), some (.inl x1), some (.inl x2), some (.inl x3), none, none, none, none, none] [.inl x2, .inr (.inr x0)] (by decide +kernel) rfl ?_
    refine s_cV (Z := Y_X12_isDesk) (c := 12) (vs := [.inl x2]) (st := []) (rO := fun z => some (.inl z)) (mO := fun _ => z1.2) zk_X12_isDesk zi_X12_isDesk q1554 rfl ⟨by decide, by decide⟩ ⟨rfl, rfl⟩ rfl rfl (Nat.le_of_ble_eq_true rfl) (by decide +kernel) (fun z hz => c_X12_isDesk hz) (fun v3 => ?_)
    change Sim l G Y_X12_passed lim _ _ 13 [some (.inr (.inr x0)), some (.inl x1), some (.inl x2), some (.inl x3), none, none, none, none, none] [.inl v3] z1.2
    refine s_if_eq (tgt := 24) (off := 11) (by decide +kernel) (by decide) (fun h4 => ?_) (fun h4 => ?_)
    · skip
      refine s_run (b := [(.iconst (-1), 1)]) 25 [some (.inr (.inr x0)), some (.inl x1), some (.inl x2), some (.inl x3), none, none, none, none, none] [.inl (-1 : Int32)] (by decide +kernel) rfl ?_
      exact s_iret (by decide +kernel) rfl
    · skip
      refine s_run (b := [(.aload_n 0, 1), (.iload_n 3, 1)]) 18 [some (.inr (.inr x0)), some (.inl x1), some (.inl x2), some (.inl x3), none, none, none, none, none] [.inl x3, .inr (.inr x0)] (by decide +kernel) rfl ?_
      refine s_cV (Z := Y_X12_isDesk) (c := 12) (vs := [.inl x3]) (st := []) (rO := fun z => some (.inl z)) (mO := fun _ => z1.2) zk_X12_isDesk zi_X12_isDesk q1554 rfl ⟨by decide, by decide⟩ ⟨rfl, rfl⟩ rfl rfl (Nat.le_of_ble_eq_true rfl) (by decide +kernel) (fun z hz => c_X12_isDesk hz) (fun v5 => ?_)
      change Sim l G Y_X12_passed lim _ _ 21 [some (.inr (.inr x0)), some (.inl x1), some (.inl x2), some (.inl x3), none, none, none, none, none] [.inl v5] z1.2
      refine s_if_ne (tgt := 26) (off := 5) (by decide +kernel) (by decide) (fun h6 => ?_) (fun h6 => ?_)
      · skip
        refine s_run (b := [(.iconst (-1), 1)]) 25 [some (.inr (.inr x0)), some (.inl x1), some (.inl x2), some (.inl x3), none, none, none, none, none] [.inl (-1 : Int32)] (by decide +kernel) rfl ?_
        exact s_iret (by decide +kernel) rfl
      · skip
        refine s_run (b := [(.iconst 1, 1), (.iload_n 2, 1), (.ishl, 1), (.istore 4, 2), (.iconst 0, 1), (.istore 5, 2)]) 34 [some (.inr (.inr x0)), some (.inl x1), some (.inl x2), some (.inl x3), some (.inl ((1 : Int32) <<< (x2 &&& 31))), some (.inl (0 : Int32)), none, none, none] [] (by decide +kernel) rfl ?_
        refine s_lsub (ls' := [some (.inr (.inr x0)), none, none, some (.inl x3), some (.inl ((1 : Int32) <<< (x2 &&& 31))), some (.inl (0 : Int32)), none, none, none]) ⟨rfl, ⟨rfl, ⟨rfl, ⟨rfl, trivial⟩⟩⟩⟩ ?_
        refine sim_bind (L_X12_passed_34 z1.2 x0 x3 ((1 : Int32) <<< (x2 &&& 31)) (0 : Int32) _ (fun r7 => ?_) (fun r7 => ?_))
        · change Sim l G Y_X12_passed lim _ _ 50 [none, none, none, none, none, some (.inl r7), none, none, none] [] z1.2
          refine s_run (b := [(.iload 5, 2)]) 52 [none, none, none, none, none, some (.inl r7), none, none, none] [.inl r7] (by decide +kernel) rfl ?_
          exact s_iret (by decide +kernel) rfl
        · change Sim l G Y_X12_passed lim _ _ 137 [none, none, none, none, none, none, none, none, none] [] z1.2
          refine s_run (b := [(.iconst (-1), 1)]) 138 [none, none, none, none, none, none, none, none, none] [.inl (-1 : Int32)] (by decide +kernel) rfl ?_
          exact s_iret (by decide +kernel) rfl
set_option maxRecDepth 20000 in
theorem c_X12_passed {l : Launch} {G : Gv} {M : Mem} {x0 : Nat} {x1 : Int32} {x2 : Int32} {x3 : Int32} {z : Int32 × Mem} (h : f_X12_passed M x0 x1 x2 x3 = some z) : MetS l G Y_X12_passed [.inr (.inr x0), .inl x1, .inl x2, .inl x3] M (some (.int z.1)) z.2 :=
  met_of (ls0 := [some (.inr (.inr x0)), some (.inl x1), some (.inl x2), some (.inl x3), none, none, none, none, none]) (by decide) rfl (lv_in (m := 5) rfl) (sl_le (Nat.le_of_ble_eq_true rfl)) (by rw [h]; rfl) (Or.inl ⟨rfl, rfl⟩) (S_X12_passed M x0 x1 x2 x3)
def f_X12_quiet_J74 (M : Mem) (x0 : Nat) (x2 : Int32) (x3 : Int32) (x4 : Int32) (x5 : Int32) (y0 : Int32) : Option ((Int32 × Int32) ⊕ ((Int32))) :=
  (ob M 12 x0).bind fun _ => (f_X12_ofCall M x0 x5 (0 : Int32)).bind fun v1 =>
  (ob M 12 x0).bind fun _ => (f_X12_hears M x0 x2 v1).bind fun v2 =>
  (if v2 = 0 then
    some (.inl ((x3 + (0 : Int32)), (x5 + (1 : Int32))))
  else
    some (.inl ((x3 + y0), (x5 + (1 : Int32)))))
set_option maxRecDepth 20000 in
theorem J_X12_quiet_74 {l : Launch} {G : Gv} {lim : Nat × Nat} (M : Mem) (x0 : Nat) (x2 : Int32) (x3 : Int32) (x4 : Int32) (x5 : Int32) (y0 : Int32) (K : (Int32 × Int32) ⊕ ((Int32)) → Option (Option Value × Mem)) (kk1 : ∀ (s3 : Int32) (s5 : Int32), SimR l G Y_X12_quiet lim (K (.inl (s3, s5))) 36 [some (.inr (.inr x0)), none, some (.inl x2), some (.inl s3), some (.inl x4), some (.inl s5), none] [] M) (kk2_0 : ∀ (s3 : Int32), SimR l G Y_X12_quiet lim (K (.inr s3)) 106 [none, none, none, some (.inl s3), none, none, none] [] M) : Sim l G Y_X12_quiet lim (f_X12_quiet_J74 M x0 x2 x3 x4 x5 y0) K 74 [some (.inr (.inr x0)), none, some (.inl x2), some (.inl x3), some (.inl x4), some (.inl x5), none] [.inl y0] M := by
  unfold f_X12_quiet_J74
  refine s_run (b := [(.istore 6, 2), (.iload_n 3, 1), (.aload_n 0, 1), (.iload_n 2, 1), (.aload_n 0, 1), (.iload 5, 2), (.iconst 0, 1)]) 83 [some (.inr (.inr x0)), none, some (.inl x2), some (.inl x3), some (.inl x4), some (.inl x5), some (.inl y0)] [.inl (0 : Int32), .inl x5, .inr (.inr x0), .inl x2, .inr (.inr x0), .inl x3] (by decide +kernel) rfl ?_
  refine s_cV (Z := Y_X12_ofCall) (c := 12) (vs := [.inl x5, .inl (0 : Int32)]) (st := [.inl x2, .inr (.inr x0), .inl x3]) (rO := fun z => some (.inl z)) (mO := fun _ => M) zk_X12_ofCall zi_X12_ofCall q1566 rfl ⟨by decide, by decide⟩ ⟨rfl, rfl⟩ rfl rfl (Nat.le_of_ble_eq_true rfl) (by decide +kernel) (fun z hz => c_X12_ofCall hz) (fun v1 => ?_)
  change Sim l G Y_X12_quiet lim _ _ 86 [some (.inr (.inr x0)), none, some (.inl x2), some (.inl x3), some (.inl x4), some (.inl x5), some (.inl y0)] [.inl v1, .inl x2, .inr (.inr x0), .inl x3] M
  refine s_cV (Z := Y_X12_hears) (c := 12) (vs := [.inl x2, .inl v1]) (st := [.inl x3]) (rO := fun z => some (.inl z)) (mO := fun _ => M) zk_X12_hears zi_X12_hears q1609 rfl ⟨by decide, by decide⟩ ⟨rfl, rfl⟩ rfl rfl (Nat.le_of_ble_eq_true rfl) (by decide +kernel) (fun z hz => c_X12_hears hz) (fun v2 => ?_)
  change Sim l G Y_X12_quiet lim _ _ 89 [some (.inr (.inr x0)), none, some (.inl x2), some (.inl x3), some (.inl x4), some (.inl x5), some (.inl y0)] [.inl v2, .inl x3] M
  refine s_if_eq (tgt := 97) (off := 8) (by decide +kernel) (by decide) (fun h3 => ?_) (fun h3 => ?_)
  · skip
    refine s_run (b := [(.iconst 0, 1), (.iadd, 1), (.istore_n 3, 1), (.iinc 5 1, 3), (.goto (-67), 3)]) 36 [some (.inr (.inr x0)), none, some (.inl x2), some (.inl (x3 + (0 : Int32))), some (.inl x4), some (.inl (x5 + (1 : Int32))), some (.inl y0)] [] (by decide +kernel) rfl ?_
    exact s_lsub (ls' := [some (.inr (.inr x0)), none, some (.inl x2), some (.inl (x3 + (0 : Int32))), some (.inl x4), some (.inl (x5 + (1 : Int32))), none]) ⟨rfl, ⟨rfl, ⟨rfl, ⟨rfl, ⟨rfl, trivial⟩⟩⟩⟩⟩ (kk1 (x3 + (0 : Int32)) (x5 + (1 : Int32)))
  · skip
    refine s_run (b := [(.iload 6, 2), (.goto 4, 3), (.iadd, 1), (.istore_n 3, 1), (.iinc 5 1, 3), (.goto (-67), 3)]) 36 [some (.inr (.inr x0)), none, some (.inl x2), some (.inl (x3 + y0)), some (.inl x4), some (.inl (x5 + (1 : Int32))), some (.inl y0)] [] (by decide +kernel) rfl ?_
    exact s_lsub (ls' := [some (.inr (.inr x0)), none, some (.inl x2), some (.inl (x3 + y0)), some (.inl x4), some (.inl (x5 + (1 : Int32))), none]) ⟨rfl, ⟨rfl, ⟨rfl, ⟨rfl, ⟨rfl, trivial⟩⟩⟩⟩⟩ (kk1 (x3 + y0) (x5 + (1 : Int32)))
def f_X12_quiet_J67 (M : Mem) (x0 : Nat) (x2 : Int32) (x3 : Int32) (x4 : Int32) (x5 : Int32)  : Option ((Int32 × Int32) ⊕ ((Int32))) :=
  (ob M 12 x0).bind fun _ => (f_X12_ofCall M x0 x5 (2 : Int32)).bind fun v1 =>
  f_X12_quiet_J74 M x0 x2 x3 x4 x5 v1
set_option maxRecDepth 20000 in
theorem J_X12_quiet_67 {l : Launch} {G : Gv} {lim : Nat × Nat} (M : Mem) (x0 : Nat) (x2 : Int32) (x3 : Int32) (x4 : Int32) (x5 : Int32)  (K : (Int32 × Int32) ⊕ ((Int32)) → Option (Option Value × Mem)) (kk1 : ∀ (s3 : Int32) (s5 : Int32), SimR l G Y_X12_quiet lim (K (.inl (s3, s5))) 36 [some (.inr (.inr x0)), none, some (.inl x2), some (.inl s3), some (.inl x4), some (.inl s5), none] [] M) (kk2_0 : ∀ (s3 : Int32), SimR l G Y_X12_quiet lim (K (.inr s3)) 106 [none, none, none, some (.inl s3), none, none, none] [] M) : Sim l G Y_X12_quiet lim (f_X12_quiet_J67 M x0 x2 x3 x4 x5) K 67 [some (.inr (.inr x0)), none, some (.inl x2), some (.inl x3), some (.inl x4), some (.inl x5), none] [] M := by
  unfold f_X12_quiet_J67
  refine s_run (b := [(.aload_n 0, 1), (.iload 5, 2), (.iconst 2, 1)]) 71 [some (.inr (.inr x0)), none, some (.inl x2), some (.inl x3), some (.inl x4), some (.inl x5), none] [.inl (2 : Int32), .inl x5, .inr (.inr x0)] (by decide +kernel) rfl ?_
  refine s_cV (Z := Y_X12_ofCall) (c := 12) (vs := [.inl x5, .inl (2 : Int32)]) (st := []) (rO := fun z => some (.inl z)) (mO := fun _ => M) zk_X12_ofCall zi_X12_ofCall q1566 rfl ⟨by decide, by decide⟩ ⟨rfl, rfl⟩ rfl rfl (Nat.le_of_ble_eq_true rfl) (by decide +kernel) (fun z hz => c_X12_ofCall hz) (fun v1 => ?_)
  change Sim l G Y_X12_quiet lim _ _ 74 [some (.inr (.inr x0)), none, some (.inl x2), some (.inl x3), some (.inl x4), some (.inl x5), none] [.inl v1] M
  exact s_lsub (ls' := [some (.inr (.inr x0)), none, some (.inl x2), some (.inl x3), some (.inl x4), some (.inl x5), none]) ⟨rfl, ⟨rfl, ⟨rfl, ⟨rfl, ⟨rfl, trivial⟩⟩⟩⟩⟩ (J_X12_quiet_74 M x0 x2 x3 x4 x5 v1 K kk1 kk2_0)
def f_X12_quiet_B36 (M : Mem) (x0 : Nat) (x2 : Int32) (x4 : Int32) (x3 : Int32) (x5 : Int32) : Option ((Int32 × Int32) ⊕ ((Int32))) :=
  (gI M 12 x0 13).bind fun v1 =>
  (if v1 ≤ x5 then
    some (.inr x3)
  else
    (if x4 ≤ 0 then
      f_X12_quiet_J67 M x0 x2 x3 x4 x5 
    else
      (ob M 12 x0).bind fun _ => (f_X12_ofCall M x0 x5 (2 : Int32)).bind fun v4 =>
      (if v4 ≤ x4 then
        f_X12_quiet_J67 M x0 x2 x3 x4 x5 
      else
        f_X12_quiet_J74 M x0 x2 x3 x4 x5 x4)))
def f_X12_quiet_L36 (M : Mem) (x0 : Nat) (x2 : Int32) (x4 : Int32) (x3 : Int32) (x5 : Int32) : Option ((Int32)) := iter (fun s : Int32 × Int32 => f_X12_quiet_B36 M x0 x2 x4 s.1 s.2) 1048576 (x3, x5)
set_option maxRecDepth 20000 in
theorem B_X12_quiet_36 {l : Launch} {G : Gv} {lim : Nat × Nat} (M : Mem) (x0 : Nat) (x2 : Int32) (x4 : Int32) (x3 : Int32) (x5 : Int32) (K : (Int32 × Int32) ⊕ ((Int32)) → Option (Option Value × Mem)) (kk1 : ∀ (s3 : Int32) (s5 : Int32), SimR l G Y_X12_quiet lim (K (.inl (s3, s5))) 36 [some (.inr (.inr x0)), none, some (.inl x2), some (.inl s3), some (.inl x4), some (.inl s5), none] [] M) (kk2_0 : ∀ (s3 : Int32), SimR l G Y_X12_quiet lim (K (.inr s3)) 106 [none, none, none, some (.inl s3), none, none, none] [] M) : Sim l G Y_X12_quiet lim (f_X12_quiet_B36 M x0 x2 x4 x3 x5) K 36 [some (.inr (.inr x0)), none, some (.inl x2), some (.inl x3), some (.inl x4), some (.inl x5), none] [] M := by
  unfold f_X12_quiet_B36
  refine s_run (b := [(.iload 5, 2), (.aload_n 0, 1)]) 39 [some (.inr (.inr x0)), none, some (.inl x2), some (.inl x3), some (.inl x4), some (.inl x5), none] [.inr (.inr x0), .inl x5] (by decide +kernel) rfl ?_
  refine s_gI fl_12_165 rfl (by decide +kernel) (fun v1 => ?_)
  refine s_ic_ge (tgt := 106) (off := 64) (by decide +kernel) (by decide) (fun h2 => ?_) (fun h2 => ?_)
  · skip
    exact s_lsub (ls' := [none, none, none, some (.inl x3), none, none, none]) ⟨rfl, trivial⟩ (kk2_0 x3)
  · skip
    refine s_run (b := [(.iload 4, 2)]) 47 [some (.inr (.inr x0)), none, some (.inl x2), some (.inl x3), some (.inl x4), some (.inl x5), none] [.inl x4] (by decide +kernel) rfl ?_
    refine s_if_le (tgt := 67) (off := 20) (by decide +kernel) (by decide) (fun h3 => ?_) (fun h3 => ?_)
    · skip
      exact s_lsub (ls' := [some (.inr (.inr x0)), none, some (.inl x2), some (.inl x3), some (.inl x4), some (.inl x5), none]) ⟨rfl, ⟨rfl, ⟨rfl, ⟨rfl, ⟨rfl, trivial⟩⟩⟩⟩⟩ (J_X12_quiet_67 M x0 x2 x3 x4 x5  K kk1 kk2_0)
    · skip
      refine s_run (b := [(.iload 4, 2), (.aload_n 0, 1), (.iload 5, 2), (.iconst 2, 1)]) 56 [some (.inr (.inr x0)), none, some (.inl x2), some (.inl x3), some (.inl x4), some (.inl x5), none] [.inl (2 : Int32), .inl x5, .inr (.inr x0), .inl x4] (by decide +kernel) rfl ?_
      refine s_cV (Z := Y_X12_ofCall) (c := 12) (vs := [.inl x5, .inl (2 : Int32)]) (st := [.inl x4]) (rO := fun z => some (.inl z)) (mO := fun _ => M) zk_X12_ofCall zi_X12_ofCall q1566 rfl ⟨by decide, by decide⟩ ⟨rfl, rfl⟩ rfl rfl (Nat.le_of_ble_eq_true rfl) (by decide +kernel) (fun z hz => c_X12_ofCall hz) (fun v4 => ?_)
      change Sim l G Y_X12_quiet lim _ _ 59 [some (.inr (.inr x0)), none, some (.inl x2), some (.inl x3), some (.inl x4), some (.inl x5), none] [.inl v4, .inl x4] M
      refine s_ic_ge (tgt := 67) (off := 8) (by decide +kernel) (by decide) (fun h5 => ?_) (fun h5 => ?_)
      · skip
        exact s_lsub (ls' := [some (.inr (.inr x0)), none, some (.inl x2), some (.inl x3), some (.inl x4), some (.inl x5), none]) ⟨rfl, ⟨rfl, ⟨rfl, ⟨rfl, ⟨rfl, trivial⟩⟩⟩⟩⟩ (J_X12_quiet_67 M x0 x2 x3 x4 x5  K kk1 kk2_0)
      · skip
        refine s_run (b := [(.iload 4, 2), (.goto 10, 3)]) 74 [some (.inr (.inr x0)), none, some (.inl x2), some (.inl x3), some (.inl x4), some (.inl x5), none] [.inl x4] (by decide +kernel) rfl ?_
        exact s_lsub (ls' := [some (.inr (.inr x0)), none, some (.inl x2), some (.inl x3), some (.inl x4), some (.inl x5), none]) ⟨rfl, ⟨rfl, ⟨rfl, ⟨rfl, ⟨rfl, trivial⟩⟩⟩⟩⟩ (J_X12_quiet_74 M x0 x2 x3 x4 x5 x4 K kk1 kk2_0)
set_option maxRecDepth 20000 in
theorem L_X12_quiet_36 {l : Launch} {G : Gv} {lim : Nat × Nat} (M : Mem) (x0 : Nat) (x2 : Int32) (x4 : Int32) (x3 : Int32) (x5 : Int32) (K : ((Int32)) → Option (Option Value × Mem)) (kk2_0 : ∀ r : Int32, SimR l G Y_X12_quiet lim (K r) 106 [none, none, none, some (.inl r), none, none, none] [] M) : Sim l G Y_X12_quiet lim (f_X12_quiet_L36 M x0 x2 x4 x3 x5) K 36 [some (.inr (.inr x0)), none, some (.inl x2), some (.inl x3), some (.inl x4), some (.inl x5), none] [] M :=
  s_iter (f := fun s : Int32 × Int32 => f_X12_quiet_B36 M x0 x2 x4 s.1 s.2) (hd := 36) (cl := fun s => [some (.inr (.inr x0)), none, some (.inl x2), some (.inl s.1), some (.inl x4), some (.inl s.2), none]) (cm := fun s => M) (xp := fun _ => 106) (xl := fun r => [none, none, none, some (.inl r), none, none, none]) (xm := fun r => M) (fun s K h1 h2 => B_X12_quiet_36 M x0 x2 x4 s.1 s.2 K (fun a3 a5 => h1 (a3, a5)) (fun a3 => h2 a3)) 1048576 (x3, x5) K kk2_0
def f_X12_quiet (M : Mem) (x0 : Nat) (x1 : Int32) (x2 : Int32) : Option (Int32 × Mem) :=
  (ob M 12 x0).bind fun _ => (f_X12_isOffice M x0 x1).bind fun z1 =>
  (if z1.1 = 0 then
    some ((-1 : Int32), z1.2)
  else
    (ob z1.2 12 x0).bind fun _ => (f_X12_isDesk z1.2 x0 x2).bind fun v3 =>
    (if v3 = 0 then
      some ((-1 : Int32), z1.2)
    else
      (gR z1.2 12 x0 0).bind fun v5 =>
      (gI z1.2 12 x0 11).bind fun v6 =>
      (aI z1.2 0 v5 (v6 + (3 : Int32))).bind fun v7 =>
      (f_X12_quiet_L36 z1.2 x0 x2 v7 (0 : Int32) (0 : Int32)).bind fun r8 =>
      some (r8, z1.2)))
set_option maxRecDepth 20000 in
theorem S_X12_quiet {l : Launch} {G : Gv} {lim : Nat × Nat} (M : Mem) (x0 : Nat) (x1 : Int32) (x2 : Int32) : Sim l G Y_X12_quiet lim (f_X12_quiet M x0 x1 x2) (fun z => some (some (.int z.1), z.2)) 0 [some (.inr (.inr x0)), some (.inl x1), some (.inl x2), none, none, none, none] [] M := by
  unfold f_X12_quiet
  refine s_run (b := [(.aload_n 0, 1), (.iload_n 1, 1)]) 2 [some (.inr (.inr x0)), some (.inl x1), some (.inl x2), none, none, none, none] [.inl x1, .inr (.inr x0)] (by decide +kernel) rfl ?_
  refine s_cV (Z := Y_X12_isOffice) (c := 12) (vs := [.inl x1]) (st := []) (rO := fun z => some (.inl z.1)) (mO := fun z => z.2) zk_X12_isOffice zi_X12_isOffice q1550 rfl ⟨by decide, by decide⟩ ⟨rfl, rfl⟩ rfl rfl (Nat.le_of_ble_eq_true rfl) (by decide +kernel) (fun z hz => c_X12_isOffice hz) (fun z1 => ?_)
  change Sim l G Y_X12_quiet lim _ _ 5 [some (.inr (.inr x0)), some (.inl x1), some (.inl x2), none, none, none, none] [.inl z1.1] z1.2
  refine s_if_eq (tgt := 16) (off := 11) (by decide +kernel) (by decide) (fun h2 => ?_) (fun h2 => ?_)
  · skip
    refine s_run (b := [(.iconst (-1), 1)]) 17 [some (.inr (.inr x0)), some (.inl x1), some (.inl x2), none, none, none, none] [.inl (-1 : Int32)] (by decide +kernel) rfl ?_
    exact s_iret (by decide +kernel) rfl
  · skip
    refine s_run (b := [(.aload_n 0, 1), (.iload_n 2, 1)]) 10 [some (.inr (.inr x0)), some (.inl x1), some (.inl x2), none, none, none, none] [.inl x2, .inr (.inr x0)] (by decide +kernel) rfl ?_
    refine s_cV (Z := Y_X12_isDesk) (c := 12) (vs := [.inl x2]) (st := []) (rO := fun z => some (.inl z)) (mO := fun _ => z1.2) zk_X12_isDesk zi_X12_isDesk q1554 rfl ⟨by decide, by decide⟩ ⟨rfl, rfl⟩ rfl rfl (Nat.le_of_ble_eq_true rfl) (by decide +kernel) (fun z hz => c_X12_isDesk hz) (fun v3 => ?_)
    change Sim l G Y_X12_quiet lim _ _ 13 [some (.inr (.inr x0)), some (.inl x1), some (.inl x2), none, none, none, none] [.inl v3] z1.2
    refine s_if_ne (tgt := 18) (off := 5) (by decide +kernel) (by decide) (fun h4 => ?_) (fun h4 => ?_)
    · skip
      refine s_run (b := [(.iconst (-1), 1)]) 17 [some (.inr (.inr x0)), some (.inl x1), some (.inl x2), none, none, none, none] [.inl (-1 : Int32)] (by decide +kernel) rfl ?_
      exact s_iret (by decide +kernel) rfl
    · skip
      refine s_run (b := [(.iconst 0, 1), (.istore_n 3, 1), (.aload_n 0, 1)]) 21 [some (.inr (.inr x0)), some (.inl x1), some (.inl x2), some (.inl (0 : Int32)), none, none, none] [.inr (.inr x0)] (by decide +kernel) rfl ?_
      refine s_gR fl_12_7 rfl (by decide +kernel) (fun v5 => ?_)
      refine s_run (b := [(.aload_n 0, 1)]) 25 [some (.inr (.inr x0)), some (.inl x1), some (.inl x2), some (.inl (0 : Int32)), none, none, none] [.inr (.inr x0), .inr (.inr v5)] (by decide +kernel) rfl ?_
      refine s_gI fl_12_159 rfl (by decide +kernel) (fun v6 => ?_)
      refine s_run (b := [(.iconst 3, 1), (.iadd, 1)]) 30 [some (.inr (.inr x0)), some (.inl x1), some (.inl x2), some (.inl (0 : Int32)), none, none, none] [.inl (v6 + (3 : Int32)), .inr (.inr v5)] (by decide +kernel) rfl ?_
      refine s_ia (by decide +kernel) (fun v7 => ?_)
      refine s_run (b := [(.istore 4, 2), (.iconst 0, 1), (.istore 5, 2)]) 36 [some (.inr (.inr x0)), some (.inl x1), some (.inl x2), some (.inl (0 : Int32)), some (.inl v7), some (.inl (0 : Int32)), none] [] (by decide +kernel) rfl ?_
      refine s_lsub (ls' := [some (.inr (.inr x0)), none, some (.inl x2), some (.inl (0 : Int32)), some (.inl v7), some (.inl (0 : Int32)), none]) ⟨rfl, ⟨rfl, ⟨rfl, ⟨rfl, ⟨rfl, trivial⟩⟩⟩⟩⟩ ?_
      refine sim_bind (L_X12_quiet_36 z1.2 x0 x2 v7 (0 : Int32) (0 : Int32) _ (fun r8 => ?_))
      change Sim l G Y_X12_quiet lim _ _ 106 [none, none, none, some (.inl r8), none, none, none] [] z1.2
      refine s_run (b := [(.iload_n 3, 1)]) 107 [none, none, none, some (.inl r8), none, none, none] [.inl r8] (by decide +kernel) rfl ?_
      exact s_iret (by decide +kernel) rfl
set_option maxRecDepth 20000 in
theorem c_X12_quiet {l : Launch} {G : Gv} {M : Mem} {x0 : Nat} {x1 : Int32} {x2 : Int32} {z : Int32 × Mem} (h : f_X12_quiet M x0 x1 x2 = some z) : MetS l G Y_X12_quiet [.inr (.inr x0), .inl x1, .inl x2] M (some (.int z.1)) z.2 :=
  met_of (ls0 := [some (.inr (.inr x0)), some (.inl x1), some (.inl x2), none, none, none, none]) (by decide) rfl (lv_in (m := 4) rfl) (sl_le (Nat.le_of_ble_eq_true rfl)) (by rw [h]; rfl) (Or.inl ⟨rfl, rfl⟩) (S_X12_quiet M x0 x1 x2)
def f_X12_rest_B60 (M : Mem) (x0 : Nat) (x2 : Int32) (x3 : Int32) (x4 : Int32) (x5 : Int32) (x6 : Int32) : Option ((Int32 × Int32 × Mem) ⊕ ((Int32 × Mem) ⊕ (Int32 × Mem))) :=
  (gI M 12 x0 31).bind fun v1 =>
  (if ((1 : Int32) <<< (((2 : Int32) * v1) &&& 31)) ≤ x6 then
    some (.inr (.inr (x5, M)))
  else
    (ob M 12 x0).bind fun _ => (f_X12_isRest M x0 x2 x3 x6).bind fun z3 =>
    (if z3.1 = 0 then
      some (.inl (x5, (x6 + (1 : Int32)), z3.2))
    else
      (if x5 = x4 then
        some (.inr (.inl (x6, z3.2)))
      else
        some (.inl ((x5 + (1 : Int32)), (x6 + (1 : Int32)), z3.2)))))
def f_X12_rest_L60 (M : Mem) (x0 : Nat) (x2 : Int32) (x3 : Int32) (x4 : Int32) (x5 : Int32) (x6 : Int32) : Option ((Int32 × Mem) ⊕ (Int32 × Mem)) := iter (fun s : Int32 × Int32 × Mem => f_X12_rest_B60 s.2.2 x0 x2 x3 x4 s.1 s.2.1) 1048576 (x5, x6, M)
set_option maxRecDepth 20000 in
theorem B_X12_rest_60 {l : Launch} {G : Gv} {lim : Nat × Nat} (M : Mem) (x0 : Nat) (x2 : Int32) (x3 : Int32) (x4 : Int32) (x5 : Int32) (x6 : Int32) (K : (Int32 × Int32 × Mem) ⊕ ((Int32 × Mem) ⊕ (Int32 × Mem)) → Option (Option Value × Mem)) (kk1 : ∀ (s5 : Int32) (s6 : Int32) (s_ : Mem), SimR l G Y_X12_rest lim (K (.inl (s5, s6, s_))) 60 [some (.inr (.inr x0)), none, some (.inl x2), some (.inl x3), some (.inl x4), some (.inl s5), some (.inl s6)] [] s_) (kk2_0 : ∀ (s6 : Int32) (s_ : Mem), SimR l G Y_X12_rest lim (K (.inr (.inl (s6, s_)))) 94 [none, none, none, none, none, none, some (.inl s6)] [] s_) (kk2_1 : ∀ (s5 : Int32) (s_ : Mem), SimR l G Y_X12_rest lim (K (.inr (.inr (s5, s_)))) 106 [none, none, none, none, some (.inl x4), some (.inl s5), none] [] s_) : Sim l G Y_X12_rest lim (f_X12_rest_B60 M x0 x2 x3 x4 x5 x6) K 60 [some (.inr (.inr x0)), none, some (.inl x2), some (.inl x3), some (.inl x4), some (.inl x5), some (.inl x6)] [] M := by
  unfold f_X12_rest_B60
  refine s_run (b := [(.iload 6, 2), (.iconst 1, 1), (.iconst 2, 1), (.aload_n 0, 1)]) 65 [some (.inr (.inr x0)), none, some (.inl x2), some (.inl x3), some (.inl x4), some (.inl x5), some (.inl x6)] [.inr (.inr x0), .inl (2 : Int32), .inl (1 : Int32), .inl x6] (by decide +kernel) rfl ?_
  refine s_gI fl_12_294 rfl (by decide +kernel) (fun v1 => ?_)
  refine s_run (b := [(.imul, 1), (.ishl, 1)]) 70 [some (.inr (.inr x0)), none, some (.inl x2), some (.inl x3), some (.inl x4), some (.inl x5), some (.inl x6)] [.inl ((1 : Int32) <<< (((2 : Int32) * v1) &&& 31)), .inl x6] (by decide +kernel) rfl ?_
  refine s_ic_ge (tgt := 106) (off := 36) (by decide +kernel) (by decide) (fun h2 => ?_) (fun h2 => ?_)
  · skip
    exact s_lsub (ls' := [none, none, none, none, some (.inl x4), some (.inl x5), none]) ⟨rfl, ⟨rfl, trivial⟩⟩ (kk2_1 x5 M)
  · skip
    refine s_run (b := [(.aload_n 0, 1), (.iload_n 2, 1), (.iload_n 3, 1), (.iload 6, 2)]) 78 [some (.inr (.inr x0)), none, some (.inl x2), some (.inl x3), some (.inl x4), some (.inl x5), some (.inl x6)] [.inl x6, .inl x3, .inl x2, .inr (.inr x0)] (by decide +kernel) rfl ?_
    refine s_cV (Z := Y_X12_isRest) (c := 12) (vs := [.inl x2, .inl x3, .inl x6]) (st := []) (rO := fun z => some (.inl z.1)) (mO := fun z => z.2) zk_X12_isRest zi_X12_isRest q1695 rfl ⟨by decide, by decide⟩ ⟨rfl, rfl⟩ rfl rfl (Nat.le_of_ble_eq_true rfl) (by decide +kernel) (fun z hz => c_X12_isRest hz) (fun z3 => ?_)
    change Sim l G Y_X12_rest lim _ _ 81 [some (.inr (.inr x0)), none, some (.inl x2), some (.inl x3), some (.inl x4), some (.inl x5), some (.inl x6)] [.inl z3.1] z3.2
    refine s_if_ne (tgt := 87) (off := 6) (by decide +kernel) (by decide) (fun h4 => ?_) (fun h4 => ?_)
    · skip
      refine s_run (b := [(.goto 16, 3), (.iinc 6 1, 3), (.goto (-43), 3)]) 60 [some (.inr (.inr x0)), none, some (.inl x2), some (.inl x3), some (.inl x4), some (.inl x5), some (.inl (x6 + (1 : Int32)))] [] (by decide +kernel) rfl ?_
      exact s_lsub (ls' := [some (.inr (.inr x0)), none, some (.inl x2), some (.inl x3), some (.inl x4), some (.inl x5), some (.inl (x6 + (1 : Int32)))]) ⟨rfl, ⟨rfl, ⟨rfl, ⟨rfl, ⟨rfl, ⟨rfl, trivial⟩⟩⟩⟩⟩⟩ (kk1 x5 (x6 + (1 : Int32)) z3.2)
    · skip
      refine s_run (b := [(.iload 5, 2), (.iload 4, 2)]) 91 [some (.inr (.inr x0)), none, some (.inl x2), some (.inl x3), some (.inl x4), some (.inl x5), some (.inl x6)] [.inl x4, .inl x5] (by decide +kernel) rfl ?_
      refine s_ic_ne (tgt := 97) (off := 6) (by decide +kernel) (by decide) (fun h5 => ?_) (fun h5 => ?_)
      · skip
        exact s_lsub (ls' := [none, none, none, none, none, none, some (.inl x6)]) ⟨rfl, trivial⟩ (kk2_0 x6 z3.2)
      · skip
        refine s_run (b := [(.iinc 5 1, 3), (.iinc 6 1, 3), (.goto (-43), 3)]) 60 [some (.inr (.inr x0)), none, some (.inl x2), some (.inl x3), some (.inl x4), some (.inl (x5 + (1 : Int32))), some (.inl (x6 + (1 : Int32)))] [] (by decide +kernel) rfl ?_
        exact s_lsub (ls' := [some (.inr (.inr x0)), none, some (.inl x2), some (.inl x3), some (.inl x4), some (.inl (x5 + (1 : Int32))), some (.inl (x6 + (1 : Int32)))]) ⟨rfl, ⟨rfl, ⟨rfl, ⟨rfl, ⟨rfl, ⟨rfl, trivial⟩⟩⟩⟩⟩⟩ (kk1 (x5 + (1 : Int32)) (x6 + (1 : Int32)) z3.2)
set_option maxRecDepth 20000 in
theorem L_X12_rest_60 {l : Launch} {G : Gv} {lim : Nat × Nat} (M : Mem) (x0 : Nat) (x2 : Int32) (x3 : Int32) (x4 : Int32) (x5 : Int32) (x6 : Int32) (K : ((Int32 × Mem) ⊕ (Int32 × Mem)) → Option (Option Value × Mem)) (kk2_0 : ∀ r : Int32 × Mem, SimR l G Y_X12_rest lim (K (.inl r)) 94 [none, none, none, none, none, none, some (.inl r.1)] [] r.2) (kk2_1 : ∀ r : Int32 × Mem, SimR l G Y_X12_rest lim (K (.inr r)) 106 [none, none, none, none, some (.inl x4), some (.inl r.1), none] [] r.2) : Sim l G Y_X12_rest lim (f_X12_rest_L60 M x0 x2 x3 x4 x5 x6) K 60 [some (.inr (.inr x0)), none, some (.inl x2), some (.inl x3), some (.inl x4), some (.inl x5), some (.inl x6)] [] M :=
  s_iter (f := fun s : Int32 × Int32 × Mem => f_X12_rest_B60 s.2.2 x0 x2 x3 x4 s.1 s.2.1) (hd := 60) (cl := fun s => [some (.inr (.inr x0)), none, some (.inl x2), some (.inl x3), some (.inl x4), some (.inl s.1), some (.inl s.2.1)]) (cm := fun s => s.2.2) (xp := (fun r => match r with | .inl r => 94 | .inr r => 106)) (xl := (fun r => match r with | .inl r => [none, none, none, none, none, none, some (.inl r.1)] | .inr r => [none, none, none, none, some (.inl x4), some (.inl r.1), none])) (xm := (fun r => match r with | .inl r => r.2 | .inr r => r.2)) (fun s K h1 h2 => B_X12_rest_60 s.2.2 x0 x2 x3 x4 s.1 s.2.1 K (fun a5 a6 a_ => h1 (a5, a6, a_)) (fun a6 a_ => h2 (.inl (a6, a_))) (fun a5 a_ => h2 (.inr (a5, a_)))) 1048576 (x5, x6, M) K (fun r => by
    rcases r with r | r
    · exact kk2_0 r
    · exact kk2_1 r)
def f_X12_rest (M : Mem) (x0 : Nat) (x1 : Int32) (x2 : Int32) (x3 : Int32) (x4 : Int32) : Option (Int32 × Mem) :=
  (ob M 12 x0).bind fun _ => (f_X12_isOffice M x0 x1).bind fun z1 =>
  (if z1.1 = 0 then
    some ((-1 : Int32), z1.2)
  else
    (ob z1.2 12 x0).bind fun _ => (f_X12_isDesk z1.2 x0 x2).bind fun v3 =>
    (if v3 = 0 then
      some ((-1 : Int32), z1.2)
    else
      (f_X12_isIn z1.2 x3 (0 : Int32) (99 : Int32)).bind fun v5 =>
      (if v5 = 0 then
        some ((-1 : Int32), z1.2)
      else
        (if (-2 : Int32) ≤ x4 then
          (ob z1.2 12 x0).bind fun _ => (f_X12_plays z1.2 x0 x2).bind fun z8 =>
          (if x4 = (-2 : Int32) then
            (ob z8 12 x0).bind fun _ => (f_X12_quickOf z8 x0 x2 x3).bind fun z10 =>
            some (z10.1, z10.2)
          else
            ((f_X12_rest_L60 z8 x0 x2 x3 x4 (0 : Int32) (0 : Int32)).bind fun r11 => match r11 with
            | .inl r11 => some (r11.1, r11.2)
            | .inr r11 => (if x4 = (-1 : Int32) then
                some (r11.1, r11.2)
              else
                some ((-1 : Int32), r11.2))))
        else
          some ((-1 : Int32), z1.2)))))
set_option maxRecDepth 20000 in
theorem S_X12_rest {l : Launch} {G : Gv} {lim : Nat × Nat} (M : Mem) (x0 : Nat) (x1 : Int32) (x2 : Int32) (x3 : Int32) (x4 : Int32) : Sim l G Y_X12_rest lim (f_X12_rest M x0 x1 x2 x3 x4) (fun z => some (some (.int z.1), z.2)) 0 [some (.inr (.inr x0)), some (.inl x1), some (.inl x2), some (.inl x3), some (.inl x4), none, none] [] M := by
  unfold f_X12_rest
  refine s_run (b := [(.aload_n 0, 1), (.iload_n 1, 1)]) 2 [some (.inr (.inr x0)), some (.inl x1), some (.inl x2), some (.inl x3), some (.inl x4), none, none] [.inl x1, .inr (.inr x0)] (by decide +kernel) rfl ?_
  refine s_cV (Z := Y_X12_isOffice) (c := 12) (vs := [.inl x1]) (st := []) (rO := fun z => some (.inl z.1)) (mO := fun z => z.2) zk_X12_isOffice zi_X12_isOffice q1550 rfl ⟨by decide, by decide⟩ ⟨rfl, rfl⟩ rfl rfl (Nat.le_of_ble_eq_true rfl) (by decide +kernel) (fun z hz => c_X12_isOffice hz) (fun z1 => ?_)
  change Sim l G Y_X12_rest lim _ _ 5 [some (.inr (.inr x0)), some (.inl x1), some (.inl x2), some (.inl x3), some (.inl x4), none, none] [.inl z1.1] z1.2
  refine s_if_eq (tgt := 33) (off := 28) (by decide +kernel) (by decide) (fun h2 => ?_) (fun h2 => ?_)
  · skip
    refine s_run (b := [(.iconst (-1), 1)]) 34 [some (.inr (.inr x0)), some (.inl x1), some (.inl x2), some (.inl x3), some (.inl x4), none, none] [.inl (-1 : Int32)] (by decide +kernel) rfl ?_
    exact s_iret (by decide +kernel) rfl
  · skip
    refine s_run (b := [(.aload_n 0, 1), (.iload_n 2, 1)]) 10 [some (.inr (.inr x0)), some (.inl x1), some (.inl x2), some (.inl x3), some (.inl x4), none, none] [.inl x2, .inr (.inr x0)] (by decide +kernel) rfl ?_
    refine s_cV (Z := Y_X12_isDesk) (c := 12) (vs := [.inl x2]) (st := []) (rO := fun z => some (.inl z)) (mO := fun _ => z1.2) zk_X12_isDesk zi_X12_isDesk q1554 rfl ⟨by decide, by decide⟩ ⟨rfl, rfl⟩ rfl rfl (Nat.le_of_ble_eq_true rfl) (by decide +kernel) (fun z hz => c_X12_isDesk hz) (fun v3 => ?_)
    change Sim l G Y_X12_rest lim _ _ 13 [some (.inr (.inr x0)), some (.inl x1), some (.inl x2), some (.inl x3), some (.inl x4), none, none] [.inl v3] z1.2
    refine s_if_eq (tgt := 33) (off := 20) (by decide +kernel) (by decide) (fun h4 => ?_) (fun h4 => ?_)
    · skip
      refine s_run (b := [(.iconst (-1), 1)]) 34 [some (.inr (.inr x0)), some (.inl x1), some (.inl x2), some (.inl x3), some (.inl x4), none, none] [.inl (-1 : Int32)] (by decide +kernel) rfl ?_
      exact s_iret (by decide +kernel) rfl
    · skip
      refine s_run (b := [(.iload_n 3, 1), (.iconst 0, 1), (.bipush 99, 2)]) 20 [some (.inr (.inr x0)), some (.inl x1), some (.inl x2), some (.inl x3), some (.inl x4), none, none] [.inl (99 : Int32), .inl (0 : Int32), .inl x3] (by decide +kernel) rfl ?_
      refine s_cS (Z := Y_X12_isIn) (vs := [.inl x3, .inl (0 : Int32), .inl (99 : Int32)]) (st := []) (rO := fun z => some (.inl z)) (mO := fun _ => z1.2) zk_X12_isIn q1464 q1463 ⟨by decide, by decide⟩ ⟨rfl, rfl⟩ rfl rfl (Nat.le_of_ble_eq_true rfl) (by decide +kernel) (fun z hz => c_X12_isIn hz) (fun v5 => ?_)
      change Sim l G Y_X12_rest lim _ _ 23 [some (.inr (.inr x0)), some (.inl x1), some (.inl x2), some (.inl x3), some (.inl x4), none, none] [.inl v5] z1.2
      refine s_if_eq (tgt := 33) (off := 10) (by decide +kernel) (by decide) (fun h6 => ?_) (fun h6 => ?_)
      · skip
        refine s_run (b := [(.iconst (-1), 1)]) 34 [some (.inr (.inr x0)), some (.inl x1), some (.inl x2), some (.inl x3), some (.inl x4), none, none] [.inl (-1 : Int32)] (by decide +kernel) rfl ?_
        exact s_iret (by decide +kernel) rfl
      · skip
        refine s_run (b := [(.iload 4, 2), (.bipush (-2), 2)]) 30 [some (.inr (.inr x0)), some (.inl x1), some (.inl x2), some (.inl x3), some (.inl x4), none, none] [.inl (-2 : Int32), .inl x4] (by decide +kernel) rfl ?_
        refine s_ic_ge (tgt := 35) (off := 5) (by decide +kernel) (by decide) (fun h7 => ?_) (fun h7 => ?_)
        · skip
          refine s_run (b := [(.aload_n 0, 1), (.iload_n 2, 1)]) 37 [some (.inr (.inr x0)), some (.inl x1), some (.inl x2), some (.inl x3), some (.inl x4), none, none] [.inl x2, .inr (.inr x0)] (by decide +kernel) rfl ?_
          refine s_cV (Z := Y_X12_plays) (c := 12) (vs := [.inl x2]) (st := []) (rO := fun _ => none) (mO := fun z => z) zk_X12_plays zi_X12_plays q1687 rfl ⟨by decide, by decide⟩ ⟨rfl, rfl⟩ rfl rfl (Nat.le_of_ble_eq_true rfl) (by decide +kernel) (fun z hz => c_X12_plays hz) (fun z8 => ?_)
          change Sim l G Y_X12_rest lim _ _ 40 [some (.inr (.inr x0)), some (.inl x1), some (.inl x2), some (.inl x3), some (.inl x4), none, none] [] z8
          refine s_run (b := [(.iload 4, 2), (.bipush (-2), 2)]) 44 [some (.inr (.inr x0)), some (.inl x1), some (.inl x2), some (.inl x3), some (.inl x4), none, none] [.inl (-2 : Int32), .inl x4] (by decide +kernel) rfl ?_
          refine s_ic_ne (tgt := 54) (off := 10) (by decide +kernel) (by decide) (fun h9 => ?_) (fun h9 => ?_)
          · skip
            refine s_run (b := [(.aload_n 0, 1), (.iload_n 2, 1), (.iload_n 3, 1)]) 50 [some (.inr (.inr x0)), some (.inl x1), some (.inl x2), some (.inl x3), some (.inl x4), none, none] [.inl x3, .inl x2, .inr (.inr x0)] (by decide +kernel) rfl ?_
            refine s_cV (Z := Y_X12_quickOf) (c := 12) (vs := [.inl x2, .inl x3]) (st := []) (rO := fun z => some (.inl z.1)) (mO := fun z => z.2) zk_X12_quickOf zi_X12_quickOf q1691 rfl ⟨by decide, by decide⟩ ⟨rfl, rfl⟩ rfl rfl (Nat.le_of_ble_eq_true rfl) (by decide +kernel) (fun z hz => c_X12_quickOf hz) (fun z10 => ?_)
            change Sim l G Y_X12_rest lim _ _ 53 [some (.inr (.inr x0)), some (.inl x1), some (.inl x2), some (.inl x3), some (.inl x4), none, none] [.inl z10.1] z10.2
            exact s_iret (by decide +kernel) rfl
          · skip
            refine s_run (b := [(.iconst 0, 1), (.istore 5, 2), (.iconst 0, 1), (.istore 6, 2)]) 60 [some (.inr (.inr x0)), some (.inl x1), some (.inl x2), some (.inl x3), some (.inl x4), some (.inl (0 : Int32)), some (.inl (0 : Int32))] [] (by decide +kernel) rfl ?_
            refine s_lsub (ls' := [some (.inr (.inr x0)), none, some (.inl x2), some (.inl x3), some (.inl x4), some (.inl (0 : Int32)), some (.inl (0 : Int32))]) ⟨rfl, ⟨rfl, ⟨rfl, ⟨rfl, ⟨rfl, ⟨rfl, trivial⟩⟩⟩⟩⟩⟩ ?_
            refine sim_bind (L_X12_rest_60 z8 x0 x2 x3 x4 (0 : Int32) (0 : Int32) _ (fun r11 => ?_) (fun r11 => ?_))
            · change Sim l G Y_X12_rest lim _ _ 94 [none, none, none, none, none, none, some (.inl r11.1)] [] r11.2
              refine s_run (b := [(.iload 6, 2)]) 96 [none, none, none, none, none, none, some (.inl r11.1)] [.inl r11.1] (by decide +kernel) rfl ?_
              exact s_iret (by decide +kernel) rfl
            · change Sim l G Y_X12_rest lim _ _ 106 [none, none, none, none, some (.inl x4), some (.inl r11.1), none] [] r11.2
              refine s_run (b := [(.iload 4, 2), (.iconst (-1), 1)]) 109 [none, none, none, none, some (.inl x4), some (.inl r11.1), none] [.inl (-1 : Int32), .inl x4] (by decide +kernel) rfl ?_
              refine s_ic_ne (tgt := 117) (off := 8) (by decide +kernel) (by decide) (fun h12 => ?_) (fun h12 => ?_)
              · skip
                refine s_run (b := [(.iload 5, 2), (.goto 4, 3)]) 118 [none, none, none, none, some (.inl x4), some (.inl r11.1), none] [.inl r11.1] (by decide +kernel) rfl ?_
                exact s_iret (by decide +kernel) rfl
              · skip
                refine s_run (b := [(.iconst (-1), 1)]) 118 [none, none, none, none, some (.inl x4), some (.inl r11.1), none] [.inl (-1 : Int32)] (by decide +kernel) rfl ?_
                exact s_iret (by decide +kernel) rfl
        · skip
          refine s_run (b := [(.iconst (-1), 1)]) 34 [some (.inr (.inr x0)), some (.inl x1), some (.inl x2), some (.inl x3), some (.inl x4), none, none] [.inl (-1 : Int32)] (by decide +kernel) rfl ?_
          exact s_iret (by decide +kernel) rfl
set_option maxRecDepth 20000 in
theorem c_X12_rest {l : Launch} {G : Gv} {M : Mem} {x0 : Nat} {x1 : Int32} {x2 : Int32} {x3 : Int32} {x4 : Int32} {z : Int32 × Mem} (h : f_X12_rest M x0 x1 x2 x3 x4 = some z) : MetS l G Y_X12_rest [.inr (.inr x0), .inl x1, .inl x2, .inl x3, .inl x4] M (some (.int z.1)) z.2 :=
  met_of (ls0 := [some (.inr (.inr x0)), some (.inl x1), some (.inl x2), some (.inl x3), some (.inl x4), none, none]) (by decide) rfl (lv_in (m := 2) rfl) (sl_le (Nat.le_of_ble_eq_true rfl)) (by rw [h]; rfl) (Or.inl ⟨rfl, rfl⟩) (S_X12_rest M x0 x1 x2 x3 x4)
def f_X12_roomOf_B29 (M : Mem) (x0 : Nat) (x3 : Int32) (x4 : Int32) (x2 : Int32) (x5 : Int32) : Option ((Int32 × Int32) ⊕ ((Int32))) :=
  (gI M 12 x0 12).bind fun v1 =>
  (if v1 ≤ x5 then
    some (.inr x2)
  else
    (f_X12_holds M x2 x4).bind fun v3 =>
    (if v3 = 0 then
      some (.inl (x2, (x5 + (1 : Int32))))
    else
      (ob M 12 x0).bind fun _ => (f_X12_hears M x0 x5 x4).bind fun v5 =>
      (if v5 = 0 then
        some (.inl (x2, (x5 + (1 : Int32))))
      else
        some (.inl ((x2 ||| ((1 : Int32) <<< (x5 &&& 31))), (x5 + (1 : Int32)))))))
def f_X12_roomOf_L29 (M : Mem) (x0 : Nat) (x3 : Int32) (x4 : Int32) (x2 : Int32) (x5 : Int32) : Option ((Int32)) := iter (fun s : Int32 × Int32 => f_X12_roomOf_B29 M x0 x3 x4 s.1 s.2) 1048576 (x2, x5)
set_option maxRecDepth 20000 in
theorem B_X12_roomOf_29 {l : Launch} {G : Gv} {lim : Nat × Nat} (M : Mem) (x0 : Nat) (x3 : Int32) (x4 : Int32) (x2 : Int32) (x5 : Int32) (K : (Int32 × Int32) ⊕ ((Int32)) → Option (Option Value × Mem)) (kk1 : ∀ (s2 : Int32) (s5 : Int32), SimR l G Y_X12_roomOf lim (K (.inl (s2, s5))) 29 [some (.inr (.inr x0)), none, some (.inl s2), some (.inl x3), some (.inl x4), some (.inl s5)] [] M) (kk2_0 : ∀ (s2 : Int32), SimR l G Y_X12_roomOf lim (K (.inr s2)) 71 [some (.inr (.inr x0)), none, some (.inl s2), some (.inl x3), some (.inl x4), none] [] M) : Sim l G Y_X12_roomOf lim (f_X12_roomOf_B29 M x0 x3 x4 x2 x5) K 29 [some (.inr (.inr x0)), none, some (.inl x2), some (.inl x3), some (.inl x4), some (.inl x5)] [] M := by
  unfold f_X12_roomOf_B29
  refine s_run (b := [(.iload 5, 2), (.aload_n 0, 1)]) 32 [some (.inr (.inr x0)), none, some (.inl x2), some (.inl x3), some (.inl x4), some (.inl x5)] [.inr (.inr x0), .inl x5] (by decide +kernel) rfl ?_
  refine s_gI fl_12_162 rfl (by decide +kernel) (fun v1 => ?_)
  refine s_ic_ge (tgt := 71) (off := 36) (by decide +kernel) (by decide) (fun h2 => ?_) (fun h2 => ?_)
  · skip
    exact s_lsub (ls' := [some (.inr (.inr x0)), none, some (.inl x2), some (.inl x3), some (.inl x4), none]) ⟨rfl, ⟨rfl, ⟨rfl, ⟨rfl, trivial⟩⟩⟩⟩ (kk2_0 x2)
  · skip
    refine s_run (b := [(.iload_n 2, 1), (.iload 4, 2)]) 41 [some (.inr (.inr x0)), none, some (.inl x2), some (.inl x3), some (.inl x4), some (.inl x5)] [.inl x4, .inl x2] (by decide +kernel) rfl ?_
    refine s_cS (Z := Y_X12_holds) (vs := [.inl x2, .inl x4]) (st := []) (rO := fun z => some (.inl z)) (mO := fun _ => M) zk_X12_holds q1599 q1598 ⟨by decide, by decide⟩ ⟨rfl, rfl⟩ rfl rfl (Nat.le_of_ble_eq_true rfl) (by decide +kernel) (fun z hz => c_X12_holds hz) (fun v3 => ?_)
    change Sim l G Y_X12_roomOf lim _ _ 44 [some (.inr (.inr x0)), none, some (.inl x2), some (.inl x3), some (.inl x4), some (.inl x5)] [.inl v3] M
    refine s_if_eq (tgt := 65) (off := 21) (by decide +kernel) (by decide) (fun h4 => ?_) (fun h4 => ?_)
    · skip
      refine s_run (b := [(.iinc 5 1, 3), (.goto (-39), 3)]) 29 [some (.inr (.inr x0)), none, some (.inl x2), some (.inl x3), some (.inl x4), some (.inl (x5 + (1 : Int32)))] [] (by decide +kernel) rfl ?_
      exact s_lsub (ls' := [some (.inr (.inr x0)), none, some (.inl x2), some (.inl x3), some (.inl x4), some (.inl (x5 + (1 : Int32)))]) ⟨rfl, ⟨rfl, ⟨rfl, ⟨rfl, ⟨rfl, trivial⟩⟩⟩⟩⟩ (kk1 x2 (x5 + (1 : Int32)))
    · skip
      refine s_run (b := [(.aload_n 0, 1), (.iload 5, 2), (.iload 4, 2)]) 52 [some (.inr (.inr x0)), none, some (.inl x2), some (.inl x3), some (.inl x4), some (.inl x5)] [.inl x4, .inl x5, .inr (.inr x0)] (by decide +kernel) rfl ?_
      refine s_cV (Z := Y_X12_hears) (c := 12) (vs := [.inl x5, .inl x4]) (st := []) (rO := fun z => some (.inl z)) (mO := fun _ => M) zk_X12_hears zi_X12_hears q1609 rfl ⟨by decide, by decide⟩ ⟨rfl, rfl⟩ rfl rfl (Nat.le_of_ble_eq_true rfl) (by decide +kernel) (fun z hz => c_X12_hears hz) (fun v5 => ?_)
      change Sim l G Y_X12_roomOf lim _ _ 55 [some (.inr (.inr x0)), none, some (.inl x2), some (.inl x3), some (.inl x4), some (.inl x5)] [.inl v5] M
      refine s_if_eq (tgt := 65) (off := 10) (by decide +kernel) (by decide) (fun h6 => ?_) (fun h6 => ?_)
      · skip
        refine s_run (b := [(.iinc 5 1, 3), (.goto (-39), 3)]) 29 [some (.inr (.inr x0)), none, some (.inl x2), some (.inl x3), some (.inl x4), some (.inl (x5 + (1 : Int32)))] [] (by decide +kernel) rfl ?_
        exact s_lsub (ls' := [some (.inr (.inr x0)), none, some (.inl x2), some (.inl x3), some (.inl x4), some (.inl (x5 + (1 : Int32)))]) ⟨rfl, ⟨rfl, ⟨rfl, ⟨rfl, ⟨rfl, trivial⟩⟩⟩⟩⟩ (kk1 x2 (x5 + (1 : Int32)))
      · skip
        refine s_run (b := [(.iload_n 2, 1), (.iconst 1, 1), (.iload 5, 2), (.ishl, 1), (.ior, 1), (.istore_n 2, 1), (.iinc 5 1, 3), (.goto (-39), 3)]) 29 [some (.inr (.inr x0)), none, some (.inl (x2 ||| ((1 : Int32) <<< (x5 &&& 31)))), some (.inl x3), some (.inl x4), some (.inl (x5 + (1 : Int32)))] [] (by decide +kernel) rfl ?_
        exact s_lsub (ls' := [some (.inr (.inr x0)), none, some (.inl (x2 ||| ((1 : Int32) <<< (x5 &&& 31)))), some (.inl x3), some (.inl x4), some (.inl (x5 + (1 : Int32)))]) ⟨rfl, ⟨rfl, ⟨rfl, ⟨rfl, ⟨rfl, trivial⟩⟩⟩⟩⟩ (kk1 (x2 ||| ((1 : Int32) <<< (x5 &&& 31))) (x5 + (1 : Int32)))
set_option maxRecDepth 20000 in
theorem L_X12_roomOf_29 {l : Launch} {G : Gv} {lim : Nat × Nat} (M : Mem) (x0 : Nat) (x3 : Int32) (x4 : Int32) (x2 : Int32) (x5 : Int32) (K : ((Int32)) → Option (Option Value × Mem)) (kk2_0 : ∀ r : Int32, SimR l G Y_X12_roomOf lim (K r) 71 [some (.inr (.inr x0)), none, some (.inl r), some (.inl x3), some (.inl x4), none] [] M) : Sim l G Y_X12_roomOf lim (f_X12_roomOf_L29 M x0 x3 x4 x2 x5) K 29 [some (.inr (.inr x0)), none, some (.inl x2), some (.inl x3), some (.inl x4), some (.inl x5)] [] M :=
  s_iter (f := fun s : Int32 × Int32 => f_X12_roomOf_B29 M x0 x3 x4 s.1 s.2) (hd := 29) (cl := fun s => [some (.inr (.inr x0)), none, some (.inl s.1), some (.inl x3), some (.inl x4), some (.inl s.2)]) (cm := fun s => M) (xp := fun _ => 71) (xl := fun r => [some (.inr (.inr x0)), none, some (.inl r), some (.inl x3), some (.inl x4), none]) (xm := fun r => M) (fun s K h1 h2 => B_X12_roomOf_29 M x0 x3 x4 s.1 s.2 K (fun a2 a5 => h1 (a2, a5)) (fun a2 => h2 a2)) 1048576 (x2, x5) K kk2_0
def f_X12_roomOf_B17 (M : Mem) (x0 : Nat) (x3 : Int32) (x2 : Int32) (x4 : Int32) : Option ((Int32 × Int32) ⊕ ((Int32))) :=
  (gI M 12 x0 12).bind fun v1 =>
  (if v1 ≤ x4 then
    some (.inr x2)
  else
    (f_X12_roomOf_L29 M x0 x3 x4 x2 (0 : Int32)).bind fun r3 =>
    some (.inl (r3, (x4 + (1 : Int32)))))
def f_X12_roomOf_L17 (M : Mem) (x0 : Nat) (x3 : Int32) (x2 : Int32) (x4 : Int32) : Option ((Int32)) := iter (fun s : Int32 × Int32 => f_X12_roomOf_B17 M x0 x3 s.1 s.2) 1048576 (x2, x4)
set_option maxRecDepth 20000 in
theorem B_X12_roomOf_17 {l : Launch} {G : Gv} {lim : Nat × Nat} (M : Mem) (x0 : Nat) (x3 : Int32) (x2 : Int32) (x4 : Int32) (K : (Int32 × Int32) ⊕ ((Int32)) → Option (Option Value × Mem)) (kk1 : ∀ (s2 : Int32) (s4 : Int32), SimR l G Y_X12_roomOf lim (K (.inl (s2, s4))) 17 [some (.inr (.inr x0)), none, some (.inl s2), some (.inl x3), some (.inl s4), none] [] M) (kk2_0 : ∀ (s2 : Int32), SimR l G Y_X12_roomOf lim (K (.inr s2)) 77 [some (.inr (.inr x0)), none, some (.inl s2), some (.inl x3), none, none] [] M) : Sim l G Y_X12_roomOf lim (f_X12_roomOf_B17 M x0 x3 x2 x4) K 17 [some (.inr (.inr x0)), none, some (.inl x2), some (.inl x3), some (.inl x4), none] [] M := by
  unfold f_X12_roomOf_B17
  refine s_run (b := [(.iload 4, 2), (.aload_n 0, 1)]) 20 [some (.inr (.inr x0)), none, some (.inl x2), some (.inl x3), some (.inl x4), none] [.inr (.inr x0), .inl x4] (by decide +kernel) rfl ?_
  refine s_gI fl_12_162 rfl (by decide +kernel) (fun v1 => ?_)
  refine s_ic_ge (tgt := 77) (off := 54) (by decide +kernel) (by decide) (fun h2 => ?_) (fun h2 => ?_)
  · skip
    exact s_lsub (ls' := [some (.inr (.inr x0)), none, some (.inl x2), some (.inl x3), none, none]) ⟨rfl, ⟨rfl, ⟨rfl, trivial⟩⟩⟩ (kk2_0 x2)
  · skip
    refine s_run (b := [(.iconst 0, 1), (.istore 5, 2)]) 29 [some (.inr (.inr x0)), none, some (.inl x2), some (.inl x3), some (.inl x4), some (.inl (0 : Int32))] [] (by decide +kernel) rfl ?_
    refine s_lsub (ls' := [some (.inr (.inr x0)), none, some (.inl x2), some (.inl x3), some (.inl x4), some (.inl (0 : Int32))]) ⟨rfl, ⟨rfl, ⟨rfl, ⟨rfl, ⟨rfl, trivial⟩⟩⟩⟩⟩ ?_
    refine sim_bind (L_X12_roomOf_29 M x0 x3 x4 x2 (0 : Int32) _ (fun r3 => ?_))
    change Sim l G Y_X12_roomOf lim _ _ 71 [some (.inr (.inr x0)), none, some (.inl r3), some (.inl x3), some (.inl x4), none] [] M
    refine s_run (b := [(.iinc 4 1, 3), (.goto (-57), 3)]) 17 [some (.inr (.inr x0)), none, some (.inl r3), some (.inl x3), some (.inl (x4 + (1 : Int32))), none] [] (by decide +kernel) rfl ?_
    exact s_lsub (ls' := [some (.inr (.inr x0)), none, some (.inl r3), some (.inl x3), some (.inl (x4 + (1 : Int32))), none]) ⟨rfl, ⟨rfl, ⟨rfl, ⟨rfl, trivial⟩⟩⟩⟩ (kk1 r3 (x4 + (1 : Int32)))
set_option maxRecDepth 20000 in
theorem L_X12_roomOf_17 {l : Launch} {G : Gv} {lim : Nat × Nat} (M : Mem) (x0 : Nat) (x3 : Int32) (x2 : Int32) (x4 : Int32) (K : ((Int32)) → Option (Option Value × Mem)) (kk2_0 : ∀ r : Int32, SimR l G Y_X12_roomOf lim (K r) 77 [some (.inr (.inr x0)), none, some (.inl r), some (.inl x3), none, none] [] M) : Sim l G Y_X12_roomOf lim (f_X12_roomOf_L17 M x0 x3 x2 x4) K 17 [some (.inr (.inr x0)), none, some (.inl x2), some (.inl x3), some (.inl x4), none] [] M :=
  s_iter (f := fun s : Int32 × Int32 => f_X12_roomOf_B17 M x0 x3 s.1 s.2) (hd := 17) (cl := fun s => [some (.inr (.inr x0)), none, some (.inl s.1), some (.inl x3), some (.inl s.2), none]) (cm := fun s => M) (xp := fun _ => 77) (xl := fun r => [some (.inr (.inr x0)), none, some (.inl r), some (.inl x3), none, none]) (xm := fun r => M) (fun s K h1 h2 => B_X12_roomOf_17 M x0 x3 s.1 s.2 K (fun a2 a4 => h1 (a2, a4)) (fun a2 => h2 a2)) 1048576 (x2, x4) K kk2_0
def f_X12_roomOf_B6 (M : Mem) (x0 : Nat) (x2 : Int32) (x3 : Int32) : Option ((Int32 × Int32) ⊕ ((Int32))) :=
  (gI M 12 x0 12).bind fun v1 =>
  (if v1 ≤ x3 then
    some (.inr x2)
  else
    (f_X12_roomOf_L17 M x0 x3 x2 (0 : Int32)).bind fun r3 =>
    some (.inl (r3, (x3 + (1 : Int32)))))
def f_X12_roomOf_L6 (M : Mem) (x0 : Nat) (x2 : Int32) (x3 : Int32) : Option ((Int32)) := iter (fun s : Int32 × Int32 => f_X12_roomOf_B6 M x0 s.1 s.2) 1048576 (x2, x3)
set_option maxRecDepth 20000 in
theorem B_X12_roomOf_6 {l : Launch} {G : Gv} {lim : Nat × Nat} (M : Mem) (x0 : Nat) (x2 : Int32) (x3 : Int32) (K : (Int32 × Int32) ⊕ ((Int32)) → Option (Option Value × Mem)) (kk1 : ∀ (s2 : Int32) (s3 : Int32), SimR l G Y_X12_roomOf lim (K (.inl (s2, s3))) 6 [some (.inr (.inr x0)), none, some (.inl s2), some (.inl s3), none, none] [] M) (kk2_0 : ∀ (s2 : Int32), SimR l G Y_X12_roomOf lim (K (.inr s2)) 83 [none, none, some (.inl s2), none, none, none] [] M) : Sim l G Y_X12_roomOf lim (f_X12_roomOf_B6 M x0 x2 x3) K 6 [some (.inr (.inr x0)), none, some (.inl x2), some (.inl x3), none, none] [] M := by
  unfold f_X12_roomOf_B6
  refine s_run (b := [(.iload_n 3, 1), (.aload_n 0, 1)]) 8 [some (.inr (.inr x0)), none, some (.inl x2), some (.inl x3), none, none] [.inr (.inr x0), .inl x3] (by decide +kernel) rfl ?_
  refine s_gI fl_12_162 rfl (by decide +kernel) (fun v1 => ?_)
  refine s_ic_ge (tgt := 83) (off := 72) (by decide +kernel) (by decide) (fun h2 => ?_) (fun h2 => ?_)
  · skip
    exact s_lsub (ls' := [none, none, some (.inl x2), none, none, none]) ⟨rfl, trivial⟩ (kk2_0 x2)
  · skip
    refine s_run (b := [(.iconst 0, 1), (.istore 4, 2)]) 17 [some (.inr (.inr x0)), none, some (.inl x2), some (.inl x3), some (.inl (0 : Int32)), none] [] (by decide +kernel) rfl ?_
    refine s_lsub (ls' := [some (.inr (.inr x0)), none, some (.inl x2), some (.inl x3), some (.inl (0 : Int32)), none]) ⟨rfl, ⟨rfl, ⟨rfl, ⟨rfl, trivial⟩⟩⟩⟩ ?_
    refine sim_bind (L_X12_roomOf_17 M x0 x3 x2 (0 : Int32) _ (fun r3 => ?_))
    change Sim l G Y_X12_roomOf lim _ _ 77 [some (.inr (.inr x0)), none, some (.inl r3), some (.inl x3), none, none] [] M
    refine s_run (b := [(.iinc 3 1, 3), (.goto (-74), 3)]) 6 [some (.inr (.inr x0)), none, some (.inl r3), some (.inl (x3 + (1 : Int32))), none, none] [] (by decide +kernel) rfl ?_
    exact s_lsub (ls' := [some (.inr (.inr x0)), none, some (.inl r3), some (.inl (x3 + (1 : Int32))), none, none]) ⟨rfl, ⟨rfl, ⟨rfl, trivial⟩⟩⟩ (kk1 r3 (x3 + (1 : Int32)))
set_option maxRecDepth 20000 in
theorem L_X12_roomOf_6 {l : Launch} {G : Gv} {lim : Nat × Nat} (M : Mem) (x0 : Nat) (x2 : Int32) (x3 : Int32) (K : ((Int32)) → Option (Option Value × Mem)) (kk2_0 : ∀ r : Int32, SimR l G Y_X12_roomOf lim (K r) 83 [none, none, some (.inl r), none, none, none] [] M) : Sim l G Y_X12_roomOf lim (f_X12_roomOf_L6 M x0 x2 x3) K 6 [some (.inr (.inr x0)), none, some (.inl x2), some (.inl x3), none, none] [] M :=
  s_iter (f := fun s : Int32 × Int32 => f_X12_roomOf_B6 M x0 s.1 s.2) (hd := 6) (cl := fun s => [some (.inr (.inr x0)), none, some (.inl s.1), some (.inl s.2), none, none]) (cm := fun s => M) (xp := fun _ => 83) (xl := fun r => [none, none, some (.inl r), none, none, none]) (xm := fun r => M) (fun s K h1 h2 => B_X12_roomOf_6 M x0 s.1 s.2 K (fun a2 a3 => h1 (a2, a3)) (fun a2 => h2 a2)) 1048576 (x2, x3) K kk2_0
def f_X12_roomOf (M : Mem) (x0 : Nat) (x1 : Int32) : Option (Int32) :=
  (f_X12_roomOf_L6 M x0 ((1 : Int32) <<< (x1 &&& 31)) (0 : Int32)).bind fun r1 =>
  some r1
set_option maxRecDepth 20000 in
theorem S_X12_roomOf {l : Launch} {G : Gv} {lim : Nat × Nat} (M : Mem) (x0 : Nat) (x1 : Int32) : Sim l G Y_X12_roomOf lim (f_X12_roomOf M x0 x1) (fun z => some (some (.int z), M)) 0 [some (.inr (.inr x0)), some (.inl x1), none, none, none, none] [] M := by
  unfold f_X12_roomOf
  refine s_run (b := [(.iconst 1, 1), (.iload_n 1, 1), (.ishl, 1), (.istore_n 2, 1), (.iconst 0, 1), (.istore_n 3, 1)]) 6 [some (.inr (.inr x0)), some (.inl x1), some (.inl ((1 : Int32) <<< (x1 &&& 31))), some (.inl (0 : Int32)), none, none] [] (by decide +kernel) rfl ?_
  refine s_lsub (ls' := [some (.inr (.inr x0)), none, some (.inl ((1 : Int32) <<< (x1 &&& 31))), some (.inl (0 : Int32)), none, none]) ⟨rfl, ⟨rfl, ⟨rfl, trivial⟩⟩⟩ ?_
  refine sim_bind (L_X12_roomOf_6 M x0 ((1 : Int32) <<< (x1 &&& 31)) (0 : Int32) _ (fun r1 => ?_))
  change Sim l G Y_X12_roomOf lim _ _ 83 [none, none, some (.inl r1), none, none, none] [] M
  refine s_run (b := [(.iload_n 2, 1)]) 84 [none, none, some (.inl r1), none, none, none] [.inl r1] (by decide +kernel) rfl ?_
  exact s_iret (by decide +kernel) rfl
set_option maxRecDepth 20000 in
theorem c_X12_roomOf {l : Launch} {G : Gv} {M : Mem} {x0 : Nat} {x1 : Int32} {z : Int32} (h : f_X12_roomOf M x0 x1 = some z) : MetS l G Y_X12_roomOf [.inr (.inr x0), .inl x1] M (some (.int z)) M :=
  met_of (ls0 := [some (.inr (.inr x0)), some (.inl x1), none, none, none, none]) (by decide) rfl (lv_in (m := 4) rfl) (sl_le (Nat.le_of_ble_eq_true rfl)) (by rw [h]; rfl) (Or.inl ⟨rfl, rfl⟩) (S_X12_roomOf M x0 x1)
def f_X12_rooms_J58 (M : Mem) (x0 : Nat) (x2 : Int32) (x3 : Int32) (x5 : Int32) (x6 : Int32) (x7 : Int32) (y0 : Int32) : Option ((Int32 × Int32 × Int32 × Int32) ⊕ ((Int32 × Int32))) :=
  (f_X12_holds M x5 x6).bind fun v1 =>
  (if v1 = 0 then
    some (.inl ((x3 + (1 : Int32)), y0, (x5 ||| x7), (x6 + (1 : Int32))))
  else
    some (.inl ((x3 + (0 : Int32)), y0, (x5 ||| x7), (x6 + (1 : Int32)))))
set_option maxRecDepth 20000 in
theorem J_X12_rooms_58 {l : Launch} {G : Gv} {lim : Nat × Nat} (M : Mem) (x0 : Nat) (x2 : Int32) (x3 : Int32) (x5 : Int32) (x6 : Int32) (x7 : Int32) (y0 : Int32) (K : (Int32 × Int32 × Int32 × Int32) ⊕ ((Int32 × Int32)) → Option (Option Value × Mem)) (kk1 : ∀ (s3 : Int32) (s4 : Int32) (s5 : Int32) (s6 : Int32), SimR l G Y_X12_rooms lim (K (.inl (s3, s4, s5, s6))) 21 [some (.inr (.inr x0)), none, some (.inl x2), some (.inl s3), some (.inl s4), some (.inl s5), some (.inl s6), none] [] M) (kk2_0 : ∀ (s3 : Int32) (s4 : Int32), SimR l G Y_X12_rooms lim (K (.inr (s3, s4))) 91 [none, none, some (.inl x2), some (.inl s3), some (.inl s4), none, none, none] [] M) : Sim l G Y_X12_rooms lim (f_X12_rooms_J58 M x0 x2 x3 x5 x6 x7 y0) K 58 [some (.inr (.inr x0)), none, some (.inl x2), some (.inl x3), none, some (.inl x5), some (.inl x6), some (.inl x7)] [.inl y0] M := by
  unfold f_X12_rooms_J58
  refine s_run (b := [(.istore 4, 2), (.iload_n 3, 1), (.iload 5, 2), (.iload 6, 2)]) 65 [some (.inr (.inr x0)), none, some (.inl x2), some (.inl x3), some (.inl y0), some (.inl x5), some (.inl x6), some (.inl x7)] [.inl x6, .inl x5, .inl x3] (by decide +kernel) rfl ?_
  refine s_cS (Z := Y_X12_holds) (vs := [.inl x5, .inl x6]) (st := [.inl x3]) (rO := fun z => some (.inl z)) (mO := fun _ => M) zk_X12_holds q1599 q1598 ⟨by decide, by decide⟩ ⟨rfl, rfl⟩ rfl rfl (Nat.le_of_ble_eq_true rfl) (by decide +kernel) (fun z hz => c_X12_holds hz) (fun v1 => ?_)
  change Sim l G Y_X12_rooms lim _ _ 68 [some (.inr (.inr x0)), none, some (.inl x2), some (.inl x3), some (.inl y0), some (.inl x5), some (.inl x6), some (.inl x7)] [.inl v1, .inl x3] M
  refine s_if_eq (tgt := 75) (off := 7) (by decide +kernel) (by decide) (fun h2 => ?_) (fun h2 => ?_)
  · skip
    refine s_run (b := [(.iconst 1, 1), (.iadd, 1), (.istore_n 3, 1), (.iload 5, 2), (.iload 7, 2), (.ior, 1), (.istore 5, 2), (.iinc 6 1, 3), (.goto (-67), 3)]) 21 [some (.inr (.inr x0)), none, some (.inl x2), some (.inl (x3 + (1 : Int32))), some (.inl y0), some (.inl (x5 ||| x7)), some (.inl (x6 + (1 : Int32))), some (.inl x7)] [] (by decide +kernel) rfl ?_
    exact s_lsub (ls' := [some (.inr (.inr x0)), none, some (.inl x2), some (.inl (x3 + (1 : Int32))), some (.inl y0), some (.inl (x5 ||| x7)), some (.inl (x6 + (1 : Int32))), none]) ⟨rfl, ⟨rfl, ⟨rfl, ⟨rfl, ⟨rfl, ⟨rfl, trivial⟩⟩⟩⟩⟩⟩ (kk1 (x3 + (1 : Int32)) y0 (x5 ||| x7) (x6 + (1 : Int32)))
  · skip
    refine s_run (b := [(.iconst 0, 1), (.goto 4, 3), (.iadd, 1), (.istore_n 3, 1), (.iload 5, 2), (.iload 7, 2), (.ior, 1), (.istore 5, 2), (.iinc 6 1, 3), (.goto (-67), 3)]) 21 [some (.inr (.inr x0)), none, some (.inl x2), some (.inl (x3 + (0 : Int32))), some (.inl y0), some (.inl (x5 ||| x7)), some (.inl (x6 + (1 : Int32))), some (.inl x7)] [] (by decide +kernel) rfl ?_
    exact s_lsub (ls' := [some (.inr (.inr x0)), none, some (.inl x2), some (.inl (x3 + (0 : Int32))), some (.inl y0), some (.inl (x5 ||| x7)), some (.inl (x6 + (1 : Int32))), none]) ⟨rfl, ⟨rfl, ⟨rfl, ⟨rfl, ⟨rfl, ⟨rfl, trivial⟩⟩⟩⟩⟩⟩ (kk1 (x3 + (0 : Int32)) y0 (x5 ||| x7) (x6 + (1 : Int32)))
def f_X12_rooms_B21 (M : Mem) (x0 : Nat) (x2 : Int32) (x3 : Int32) (x4 : Int32) (x5 : Int32) (x6 : Int32) : Option ((Int32 × Int32 × Int32 × Int32) ⊕ ((Int32 × Int32))) :=
  (gI M 12 x0 12).bind fun v1 =>
  (if v1 ≤ x6 then
    some (.inr (x3, x4))
  else
    (ob M 12 x0).bind fun _ => (f_X12_roomOf M x0 x6).bind fun v3 =>
    (f_X12_bitsOf M v3).bind fun v4 =>
    (if v4 ≤ x4 then
      f_X12_rooms_J58 M x0 x2 x3 x5 x6 v3 x4
    else
      (f_X12_bitsOf M v3).bind fun v6 =>
      f_X12_rooms_J58 M x0 x2 x3 x5 x6 v3 v6))
def f_X12_rooms_L21 (M : Mem) (x0 : Nat) (x2 : Int32) (x3 : Int32) (x4 : Int32) (x5 : Int32) (x6 : Int32) : Option ((Int32 × Int32)) := iter (fun s : Int32 × Int32 × Int32 × Int32 => f_X12_rooms_B21 M x0 x2 s.1 s.2.1 s.2.2.1 s.2.2.2) 1048576 (x3, x4, x5, x6)
set_option maxRecDepth 20000 in
theorem B_X12_rooms_21 {l : Launch} {G : Gv} {lim : Nat × Nat} (M : Mem) (x0 : Nat) (x2 : Int32) (x3 : Int32) (x4 : Int32) (x5 : Int32) (x6 : Int32) (K : (Int32 × Int32 × Int32 × Int32) ⊕ ((Int32 × Int32)) → Option (Option Value × Mem)) (kk1 : ∀ (s3 : Int32) (s4 : Int32) (s5 : Int32) (s6 : Int32), SimR l G Y_X12_rooms lim (K (.inl (s3, s4, s5, s6))) 21 [some (.inr (.inr x0)), none, some (.inl x2), some (.inl s3), some (.inl s4), some (.inl s5), some (.inl s6), none] [] M) (kk2_0 : ∀ (s3 : Int32) (s4 : Int32), SimR l G Y_X12_rooms lim (K (.inr (s3, s4))) 91 [none, none, some (.inl x2), some (.inl s3), some (.inl s4), none, none, none] [] M) : Sim l G Y_X12_rooms lim (f_X12_rooms_B21 M x0 x2 x3 x4 x5 x6) K 21 [some (.inr (.inr x0)), none, some (.inl x2), some (.inl x3), some (.inl x4), some (.inl x5), some (.inl x6), none] [] M := by
  unfold f_X12_rooms_B21
  refine s_run (b := [(.iload 6, 2), (.aload_n 0, 1)]) 24 [some (.inr (.inr x0)), none, some (.inl x2), some (.inl x3), some (.inl x4), some (.inl x5), some (.inl x6), none] [.inr (.inr x0), .inl x6] (by decide +kernel) rfl ?_
  refine s_gI fl_12_162 rfl (by decide +kernel) (fun v1 => ?_)
  refine s_ic_ge (tgt := 91) (off := 64) (by decide +kernel) (by decide) (fun h2 => ?_) (fun h2 => ?_)
  · skip
    exact s_lsub (ls' := [none, none, some (.inl x2), some (.inl x3), some (.inl x4), none, none, none]) ⟨rfl, ⟨rfl, ⟨rfl, trivial⟩⟩⟩ (kk2_0 x3 x4)
  · skip
    refine s_run (b := [(.aload_n 0, 1), (.iload 6, 2)]) 33 [some (.inr (.inr x0)), none, some (.inl x2), some (.inl x3), some (.inl x4), some (.inl x5), some (.inl x6), none] [.inl x6, .inr (.inr x0)] (by decide +kernel) rfl ?_
    refine s_cV (Z := Y_X12_roomOf) (c := 12) (vs := [.inl x6]) (st := []) (rO := fun z => some (.inl z)) (mO := fun _ => M) zk_X12_roomOf zi_X12_roomOf q1834 rfl ⟨by decide, by decide⟩ ⟨rfl, rfl⟩ rfl rfl (Nat.le_of_ble_eq_true rfl) (by decide +kernel) (fun z hz => c_X12_roomOf hz) (fun v3 => ?_)
    change Sim l G Y_X12_rooms lim _ _ 36 [some (.inr (.inr x0)), none, some (.inl x2), some (.inl x3), some (.inl x4), some (.inl x5), some (.inl x6), none] [.inl v3] M
    refine s_run (b := [(.istore 7, 2), (.iload 7, 2)]) 40 [some (.inr (.inr x0)), none, some (.inl x2), some (.inl x3), some (.inl x4), some (.inl x5), some (.inl x6), some (.inl v3)] [.inl v3] (by decide +kernel) rfl ?_
    refine s_cS (Z := Y_X12_bitsOf) (vs := [.inl v3]) (st := []) (rO := fun z => some (.inl z)) (mO := fun _ => M) zk_X12_bitsOf q1650 q1649 ⟨by decide, by decide⟩ ⟨rfl, rfl⟩ rfl rfl (Nat.le_of_ble_eq_true rfl) (by decide +kernel) (fun z hz => c_X12_bitsOf hz) (fun v4 => ?_)
    change Sim l G Y_X12_rooms lim _ _ 43 [some (.inr (.inr x0)), none, some (.inl x2), some (.inl x3), some (.inl x4), some (.inl x5), some (.inl x6), some (.inl v3)] [.inl v4] M
    refine s_run (b := [(.iload 4, 2)]) 45 [some (.inr (.inr x0)), none, some (.inl x2), some (.inl x3), some (.inl x4), some (.inl x5), some (.inl x6), some (.inl v3)] [.inl x4, .inl v4] (by decide +kernel) rfl ?_
    refine s_ic_le (tgt := 56) (off := 11) (by decide +kernel) (by decide) (fun h5 => ?_) (fun h5 => ?_)
    · skip
      refine s_run (b := [(.iload 4, 2)]) 58 [some (.inr (.inr x0)), none, some (.inl x2), some (.inl x3), some (.inl x4), some (.inl x5), some (.inl x6), some (.inl v3)] [.inl x4] (by decide +kernel) rfl ?_
      exact s_lsub (ls' := [some (.inr (.inr x0)), none, some (.inl x2), some (.inl x3), none, some (.inl x5), some (.inl x6), some (.inl v3)]) ⟨rfl, ⟨rfl, ⟨rfl, ⟨rfl, ⟨rfl, ⟨rfl, trivial⟩⟩⟩⟩⟩⟩ (J_X12_rooms_58 M x0 x2 x3 x5 x6 v3 x4 K kk1 kk2_0)
    · skip
      refine s_run (b := [(.iload 7, 2)]) 50 [some (.inr (.inr x0)), none, some (.inl x2), some (.inl x3), some (.inl x4), some (.inl x5), some (.inl x6), some (.inl v3)] [.inl v3] (by decide +kernel) rfl ?_
      refine s_cS (Z := Y_X12_bitsOf) (vs := [.inl v3]) (st := []) (rO := fun z => some (.inl z)) (mO := fun _ => M) zk_X12_bitsOf q1650 q1649 ⟨by decide, by decide⟩ ⟨rfl, rfl⟩ rfl rfl (Nat.le_of_ble_eq_true rfl) (by decide +kernel) (fun z hz => c_X12_bitsOf hz) (fun v6 => ?_)
      change Sim l G Y_X12_rooms lim _ _ 53 [some (.inr (.inr x0)), none, some (.inl x2), some (.inl x3), some (.inl x4), some (.inl x5), some (.inl x6), some (.inl v3)] [.inl v6] M
      refine s_run (b := [(.goto 5, 3)]) 58 [some (.inr (.inr x0)), none, some (.inl x2), some (.inl x3), some (.inl x4), some (.inl x5), some (.inl x6), some (.inl v3)] [.inl v6] (by decide +kernel) rfl ?_
      exact s_lsub (ls' := [some (.inr (.inr x0)), none, some (.inl x2), some (.inl x3), none, some (.inl x5), some (.inl x6), some (.inl v3)]) ⟨rfl, ⟨rfl, ⟨rfl, ⟨rfl, ⟨rfl, ⟨rfl, trivial⟩⟩⟩⟩⟩⟩ (J_X12_rooms_58 M x0 x2 x3 x5 x6 v3 v6 K kk1 kk2_0)
set_option maxRecDepth 20000 in
theorem L_X12_rooms_21 {l : Launch} {G : Gv} {lim : Nat × Nat} (M : Mem) (x0 : Nat) (x2 : Int32) (x3 : Int32) (x4 : Int32) (x5 : Int32) (x6 : Int32) (K : ((Int32 × Int32)) → Option (Option Value × Mem)) (kk2_0 : ∀ r : Int32 × Int32, SimR l G Y_X12_rooms lim (K r) 91 [none, none, some (.inl x2), some (.inl r.1), some (.inl r.2), none, none, none] [] M) : Sim l G Y_X12_rooms lim (f_X12_rooms_L21 M x0 x2 x3 x4 x5 x6) K 21 [some (.inr (.inr x0)), none, some (.inl x2), some (.inl x3), some (.inl x4), some (.inl x5), some (.inl x6), none] [] M :=
  s_iter (f := fun s : Int32 × Int32 × Int32 × Int32 => f_X12_rooms_B21 M x0 x2 s.1 s.2.1 s.2.2.1 s.2.2.2) (hd := 21) (cl := fun s => [some (.inr (.inr x0)), none, some (.inl x2), some (.inl s.1), some (.inl s.2.1), some (.inl s.2.2.1), some (.inl s.2.2.2), none]) (cm := fun s => M) (xp := fun _ => 91) (xl := fun r => [none, none, some (.inl x2), some (.inl r.1), some (.inl r.2), none, none, none]) (xm := fun r => M) (fun s K h1 h2 => B_X12_rooms_21 M x0 x2 s.1 s.2.1 s.2.2.1 s.2.2.2 K (fun a3 a4 a5 a6 => h1 (a3, a4, a5, a6)) (fun a3 a4 => h2 (a3, a4))) 1048576 (x3, x4, x5, x6) K kk2_0
def f_X12_rooms (M : Mem) (x0 : Nat) (x1 : Int32) (x2 : Int32) : Option (Int32 × Mem) :=
  (ob M 12 x0).bind fun _ => (f_X12_isOffice M x0 x1).bind fun z1 =>
  (if z1.1 = 0 then
    some ((-1 : Int32), z1.2)
  else
    (f_X12_rooms_L21 z1.2 x0 x2 (0 : Int32) (0 : Int32) (0 : Int32) (0 : Int32)).bind fun r3 =>
    (if x2 = 0 then
      some (r3.1, z1.2)
    else
      some (r3.2, z1.2)))
set_option maxRecDepth 20000 in
theorem S_X12_rooms {l : Launch} {G : Gv} {lim : Nat × Nat} (M : Mem) (x0 : Nat) (x1 : Int32) (x2 : Int32) : Sim l G Y_X12_rooms lim (f_X12_rooms M x0 x1 x2) (fun z => some (some (.int z.1), z.2)) 0 [some (.inr (.inr x0)), some (.inl x1), some (.inl x2), none, none, none, none, none] [] M := by
  unfold f_X12_rooms
  refine s_run (b := [(.aload_n 0, 1), (.iload_n 1, 1)]) 2 [some (.inr (.inr x0)), some (.inl x1), some (.inl x2), none, none, none, none, none] [.inl x1, .inr (.inr x0)] (by decide +kernel) rfl ?_
  refine s_cV (Z := Y_X12_isOffice) (c := 12) (vs := [.inl x1]) (st := []) (rO := fun z => some (.inl z.1)) (mO := fun z => z.2) zk_X12_isOffice zi_X12_isOffice q1550 rfl ⟨by decide, by decide⟩ ⟨rfl, rfl⟩ rfl rfl (Nat.le_of_ble_eq_true rfl) (by decide +kernel) (fun z hz => c_X12_isOffice hz) (fun z1 => ?_)
  change Sim l G Y_X12_rooms lim _ _ 5 [some (.inr (.inr x0)), some (.inl x1), some (.inl x2), none, none, none, none, none] [.inl z1.1] z1.2
  refine s_if_ne (tgt := 10) (off := 5) (by decide +kernel) (by decide) (fun h2 => ?_) (fun h2 => ?_)
  · skip
    refine s_run (b := [(.iconst (-1), 1)]) 9 [some (.inr (.inr x0)), some (.inl x1), some (.inl x2), none, none, none, none, none] [.inl (-1 : Int32)] (by decide +kernel) rfl ?_
    exact s_iret (by decide +kernel) rfl
  · skip
    refine s_run (b := [(.iconst 0, 1), (.istore_n 3, 1), (.iconst 0, 1), (.istore 4, 2), (.iconst 0, 1), (.istore 5, 2), (.iconst 0, 1), (.istore 6, 2)]) 21 [some (.inr (.inr x0)), some (.inl x1), some (.inl x2), some (.inl (0 : Int32)), some (.inl (0 : Int32)), some (.inl (0 : Int32)), some (.inl (0 : Int32)), none] [] (by decide +kernel) rfl ?_
    refine s_lsub (ls' := [some (.inr (.inr x0)), none, some (.inl x2), some (.inl (0 : Int32)), some (.inl (0 : Int32)), some (.inl (0 : Int32)), some (.inl (0 : Int32)), none]) ⟨rfl, ⟨rfl, ⟨rfl, ⟨rfl, ⟨rfl, ⟨rfl, trivial⟩⟩⟩⟩⟩⟩ ?_
    refine sim_bind (L_X12_rooms_21 z1.2 x0 x2 (0 : Int32) (0 : Int32) (0 : Int32) (0 : Int32) _ (fun r3 => ?_))
    change Sim l G Y_X12_rooms lim _ _ 91 [none, none, some (.inl x2), some (.inl r3.1), some (.inl r3.2), none, none, none] [] z1.2
    refine s_run (b := [(.iload_n 2, 1)]) 92 [none, none, some (.inl x2), some (.inl r3.1), some (.inl r3.2), none, none, none] [.inl x2] (by decide +kernel) rfl ?_
    refine s_if_eq (tgt := 100) (off := 8) (by decide +kernel) (by decide) (fun h4 => ?_) (fun h4 => ?_)
    · skip
      refine s_run (b := [(.iload_n 3, 1)]) 101 [none, none, some (.inl x2), some (.inl r3.1), some (.inl r3.2), none, none, none] [.inl r3.1] (by decide +kernel) rfl ?_
      exact s_iret (by decide +kernel) rfl
    · skip
      refine s_run (b := [(.iload 4, 2), (.goto 4, 3)]) 101 [none, none, some (.inl x2), some (.inl r3.1), some (.inl r3.2), none, none, none] [.inl r3.2] (by decide +kernel) rfl ?_
      exact s_iret (by decide +kernel) rfl
set_option maxRecDepth 20000 in
theorem c_X12_rooms {l : Launch} {G : Gv} {M : Mem} {x0 : Nat} {x1 : Int32} {x2 : Int32} {z : Int32 × Mem} (h : f_X12_rooms M x0 x1 x2 = some z) : MetS l G Y_X12_rooms [.inr (.inr x0), .inl x1, .inl x2] M (some (.int z.1)) z.2 :=
  met_of (ls0 := [some (.inr (.inr x0)), some (.inl x1), some (.inl x2), none, none, none, none, none]) (by decide) rfl (lv_in (m := 5) rfl) (sl_le (Nat.le_of_ble_eq_true rfl)) (by rw [h]; rfl) (Or.inl ⟨rfl, rfl⟩) (S_X12_rooms M x0 x1 x2)
def f_X12_rule (M : Mem) (x0 : Nat) (x1 : Int32) (x2 : Int32) (x3 : Int32) : Option (Int32 × Mem) :=
  (ob M 12 x0).bind fun _ => (f_X12_isOffice M x0 x1).bind fun z1 =>
  (if z1.1 = 0 then
    some ((-1 : Int32), z1.2)
  else
    (f_X12_isIn z1.2 x2 (0 : Int32) (3 : Int32)).bind fun v3 =>
    (if v3 = 0 then
      some ((-1 : Int32), z1.2)
    else
      (f_X12_isIn z1.2 x3 (0 : Int32) (3 : Int32)).bind fun v5 =>
      (if v5 = 0 then
        some ((-1 : Int32), z1.2)
      else
        (ob z1.2 12 x0).bind fun _ => (f_X12_rules z1.2 x0 x2).bind fun z7 =>
        (if x3 = (0 : Int32) then
          (gI z7 12 x0 24).bind fun v9 =>
          some (v9, z7)
        else
        (if x3 = (1 : Int32) then
          (gI z7 12 x0 25).bind fun v11 =>
          some (v11, z7)
        else
        (if x3 = (2 : Int32) then
          (gR z7 12 x0 14).bind fun v13 =>
          (ob z7 12 x0).bind fun _ => (f_X12_mostHelped z7 x0).bind fun v14 =>
          (aI z7 0 v13 v14).bind fun v15 =>
          some (v15, z7)
        else
        (gI z7 12 x0 38).bind fun v16 =>
        some (v16, z7)))))))
set_option maxRecDepth 20000 in
theorem S_X12_rule {l : Launch} {G : Gv} {lim : Nat × Nat} (M : Mem) (x0 : Nat) (x1 : Int32) (x2 : Int32) (x3 : Int32) : Sim l G Y_X12_rule lim (f_X12_rule M x0 x1 x2 x3) (fun z => some (some (.int z.1), z.2)) 0 [some (.inr (.inr x0)), some (.inl x1), some (.inl x2), some (.inl x3)] [] M := by
  unfold f_X12_rule
  refine s_run (b := [(.aload_n 0, 1), (.iload_n 1, 1)]) 2 [some (.inr (.inr x0)), some (.inl x1), some (.inl x2), some (.inl x3)] [.inl x1, .inr (.inr x0)] (by decide +kernel) rfl ?_
  refine s_cV (Z := Y_X12_isOffice) (c := 12) (vs := [.inl x1]) (st := []) (rO := fun z => some (.inl z.1)) (mO := fun z => z.2) zk_X12_isOffice zi_X12_isOffice q1550 rfl ⟨by decide, by decide⟩ ⟨rfl, rfl⟩ rfl rfl (Nat.le_of_ble_eq_true rfl) (by decide +kernel) (fun z hz => c_X12_isOffice hz) (fun z1 => ?_)
  change Sim l G Y_X12_rule lim _ _ 5 [some (.inr (.inr x0)), some (.inl x1), some (.inl x2), some (.inl x3)] [.inl z1.1] z1.2
  refine s_if_eq (tgt := 26) (off := 21) (by decide +kernel) (by decide) (fun h2 => ?_) (fun h2 => ?_)
  · skip
    refine s_run (b := [(.iconst (-1), 1)]) 27 [some (.inr (.inr x0)), some (.inl x1), some (.inl x2), some (.inl x3)] [.inl (-1 : Int32)] (by decide +kernel) rfl ?_
    exact s_iret (by decide +kernel) rfl
  · skip
    refine s_run (b := [(.iload_n 2, 1), (.iconst 0, 1), (.iconst 3, 1)]) 11 [some (.inr (.inr x0)), some (.inl x1), some (.inl x2), some (.inl x3)] [.inl (3 : Int32), .inl (0 : Int32), .inl x2] (by decide +kernel) rfl ?_
    refine s_cS (Z := Y_X12_isIn) (vs := [.inl x2, .inl (0 : Int32), .inl (3 : Int32)]) (st := []) (rO := fun z => some (.inl z)) (mO := fun _ => z1.2) zk_X12_isIn q1464 q1463 ⟨by decide, by decide⟩ ⟨rfl, rfl⟩ rfl rfl (Nat.le_of_ble_eq_true rfl) (by decide +kernel) (fun z hz => c_X12_isIn hz) (fun v3 => ?_)
    change Sim l G Y_X12_rule lim _ _ 14 [some (.inr (.inr x0)), some (.inl x1), some (.inl x2), some (.inl x3)] [.inl v3] z1.2
    refine s_if_eq (tgt := 26) (off := 12) (by decide +kernel) (by decide) (fun h4 => ?_) (fun h4 => ?_)
    · skip
      refine s_run (b := [(.iconst (-1), 1)]) 27 [some (.inr (.inr x0)), some (.inl x1), some (.inl x2), some (.inl x3)] [.inl (-1 : Int32)] (by decide +kernel) rfl ?_
      exact s_iret (by decide +kernel) rfl
    · skip
      refine s_run (b := [(.iload_n 3, 1), (.iconst 0, 1), (.iconst 3, 1)]) 20 [some (.inr (.inr x0)), some (.inl x1), some (.inl x2), some (.inl x3)] [.inl (3 : Int32), .inl (0 : Int32), .inl x3] (by decide +kernel) rfl ?_
      refine s_cS (Z := Y_X12_isIn) (vs := [.inl x3, .inl (0 : Int32), .inl (3 : Int32)]) (st := []) (rO := fun z => some (.inl z)) (mO := fun _ => z1.2) zk_X12_isIn q1464 q1463 ⟨by decide, by decide⟩ ⟨rfl, rfl⟩ rfl rfl (Nat.le_of_ble_eq_true rfl) (by decide +kernel) (fun z hz => c_X12_isIn hz) (fun v5 => ?_)
      change Sim l G Y_X12_rule lim _ _ 23 [some (.inr (.inr x0)), some (.inl x1), some (.inl x2), some (.inl x3)] [.inl v5] z1.2
      refine s_if_ne (tgt := 28) (off := 5) (by decide +kernel) (by decide) (fun h6 => ?_) (fun h6 => ?_)
      · skip
        refine s_run (b := [(.iconst (-1), 1)]) 27 [some (.inr (.inr x0)), some (.inl x1), some (.inl x2), some (.inl x3)] [.inl (-1 : Int32)] (by decide +kernel) rfl ?_
        exact s_iret (by decide +kernel) rfl
      · skip
        refine s_run (b := [(.aload_n 0, 1), (.iload_n 2, 1)]) 30 [some (.inr (.inr x0)), some (.inl x1), some (.inl x2), some (.inl x3)] [.inl x2, .inr (.inr x0)] (by decide +kernel) rfl ?_
        refine s_cV (Z := Y_X12_rules) (c := 12) (vs := [.inl x2]) (st := []) (rO := fun _ => none) (mO := fun z => z) zk_X12_rules zi_X12_rules q1783 rfl ⟨by decide, by decide⟩ ⟨rfl, rfl⟩ rfl rfl (Nat.le_of_ble_eq_true rfl) (by decide +kernel) (fun z hz => c_X12_rules hz) (fun z7 => ?_)
        change Sim l G Y_X12_rule lim _ _ 33 [some (.inr (.inr x0)), some (.inl x1), some (.inl x2), some (.inl x3)] [] z7
        refine s_run (b := [(.iload_n 3, 1)]) 34 [some (.inr (.inr x0)), some (.inl x1), some (.inl x2), some (.inl x3)] [.inl x3] (by decide +kernel) rfl ?_
        refine s_ite (fun h8 => ?_) (fun h8 => ?_)
        · refine s_tabIn (off := 26) (tgt := 60) (dflt := 46) (lo := 0) (hi := 2) (offs := #[26, 31, 36]) (len := 26) (0 : Int32) (by decide +kernel) h8 rfl rfl rfl (by decide) ?_
          change Sim l G Y_X12_rule lim _ _ 60 [some (.inr (.inr x0)), some (.inl x1), some (.inl x2), some (.inl x3)] [] z7
          refine s_run (b := [(.aload_n 0, 1)]) 61 [some (.inr (.inr x0)), some (.inl x1), some (.inl x2), some (.inl x3)] [.inr (.inr x0)] (by decide +kernel) rfl ?_
          refine s_gI fl_12_229 rfl (by decide +kernel) (fun v9 => ?_)
          exact s_iret (by decide +kernel) rfl
        refine s_ite (fun h10 => ?_) (fun h10 => ?_)
        · refine s_tabIn (off := 31) (tgt := 65) (dflt := 46) (lo := 0) (hi := 2) (offs := #[26, 31, 36]) (len := 26) (1 : Int32) (by decide +kernel) h10 rfl rfl rfl (by decide) ?_
          change Sim l G Y_X12_rule lim _ _ 65 [some (.inr (.inr x0)), some (.inl x1), some (.inl x2), some (.inl x3)] [] z7
          refine s_run (b := [(.aload_n 0, 1)]) 66 [some (.inr (.inr x0)), some (.inl x1), some (.inl x2), some (.inl x3)] [.inr (.inr x0)] (by decide +kernel) rfl ?_
          refine s_gI fl_12_232 rfl (by decide +kernel) (fun v11 => ?_)
          exact s_iret (by decide +kernel) rfl
        refine s_ite (fun h12 => ?_) (fun h12 => ?_)
        · refine s_tabIn (off := 36) (tgt := 70) (dflt := 46) (lo := 0) (hi := 2) (offs := #[26, 31, 36]) (len := 26) (2 : Int32) (by decide +kernel) h12 rfl rfl rfl (by decide) ?_
          change Sim l G Y_X12_rule lim _ _ 70 [some (.inr (.inr x0)), some (.inl x1), some (.inl x2), some (.inl x3)] [] z7
          refine s_run (b := [(.aload_n 0, 1)]) 71 [some (.inr (.inr x0)), some (.inl x1), some (.inl x2), some (.inl x3)] [.inr (.inr x0)] (by decide +kernel) rfl ?_
          refine s_gR fl_12_20 rfl (by decide +kernel) (fun v13 => ?_)
          refine s_run (b := [(.aload_n 0, 1)]) 75 [some (.inr (.inr x0)), some (.inl x1), some (.inl x2), some (.inl x3)] [.inr (.inr x0), .inr (.inr v13)] (by decide +kernel) rfl ?_
          refine s_cV (Z := Y_X12_mostHelped) (c := 12) (vs := []) (st := [.inr (.inr v13)]) (rO := fun z => some (.inl z)) (mO := fun _ => z7) zk_X12_mostHelped zi_X12_mostHelped q1803 rfl ⟨by decide, by decide⟩ ⟨rfl, rfl⟩ rfl rfl (Nat.le_of_ble_eq_true rfl) (by decide +kernel) (fun z hz => c_X12_mostHelped hz) (fun v14 => ?_)
          change Sim l G Y_X12_rule lim _ _ 78 [some (.inr (.inr x0)), some (.inl x1), some (.inl x2), some (.inl x3)] [.inl v14, .inr (.inr v13)] z7
          refine s_ia (by decide +kernel) (fun v15 => ?_)
          exact s_iret (by decide +kernel) rfl
        refine s_tabOut (tgt := 80) (dflt := 46) (lo := 0) (hi := 2) (offs := #[26, 31, 36]) (len := 26) (by decide +kernel) (tab_out (fun k hk => by rcases (show k = 0 ∨ k = 1 ∨ k = 2 by omega) with rfl | rfl | rfl <;> first | exact i32_ne h8 (by decide) | exact i32_ne h10 (by decide) | exact i32_ne h12 (by decide))) (by decide) ?_
        change Sim l G Y_X12_rule lim _ _ 80 [some (.inr (.inr x0)), some (.inl x1), some (.inl x2), some (.inl x3)] [] z7
        refine s_run (b := [(.aload_n 0, 1)]) 81 [some (.inr (.inr x0)), some (.inl x1), some (.inl x2), some (.inl x3)] [.inr (.inr x0)] (by decide +kernel) rfl ?_
        refine s_gI fl_12_372 rfl (by decide +kernel) (fun v16 => ?_)
        exact s_iret (by decide +kernel) rfl
set_option maxRecDepth 20000 in
theorem c_X12_rule {l : Launch} {G : Gv} {M : Mem} {x0 : Nat} {x1 : Int32} {x2 : Int32} {x3 : Int32} {z : Int32 × Mem} (h : f_X12_rule M x0 x1 x2 x3 = some z) : MetS l G Y_X12_rule [.inr (.inr x0), .inl x1, .inl x2, .inl x3] M (some (.int z.1)) z.2 :=
  met_of (ls0 := [some (.inr (.inr x0)), some (.inl x1), some (.inl x2), some (.inl x3)]) (by decide) rfl (lv_in (m := 0) rfl) (sl_le (Nat.le_of_ble_eq_true rfl)) (by rw [h]; rfl) (Or.inl ⟨rfl, rfl⟩) (S_X12_rule M x0 x1 x2 x3)
def f_X12_seatOf_B5 (M : Mem) (x0 : Nat) (x1 : Int32) (x2 : Int32) (x3 : Int32) (x4 : Int32) : Option ((Int32 × Int32) ⊕ ((Int32))) :=
  (gI M 12 x0 12).bind fun v1 =>
  (if v1 ≤ x4 then
    some (.inr x3)
  else
    (if x4 = x1 then
      some (.inl ((x3 + (0 : Int32)), (x4 + (1 : Int32))))
    else
      (ob M 12 x0).bind fun _ => (f_X12_of M x0 x4 (1 : Int32)).bind fun v4 =>
      (f_X12_far M v4 x2).bind fun v5 =>
      (gR M 12 x0 0).bind fun v6 =>
      (gI M 12 x0 11).bind fun v7 =>
      (aI M 0 v6 (v7 + (2 : Int32))).bind fun v8 =>
      (if v8 < v5 then
        some (.inl ((x3 + (0 : Int32)), (x4 + (1 : Int32))))
      else
        some (.inl ((x3 + (1 : Int32)), (x4 + (1 : Int32)))))))
def f_X12_seatOf_L5 (M : Mem) (x0 : Nat) (x1 : Int32) (x2 : Int32) (x3 : Int32) (x4 : Int32) : Option ((Int32)) := iter (fun s : Int32 × Int32 => f_X12_seatOf_B5 M x0 x1 x2 s.1 s.2) 1048576 (x3, x4)
set_option maxRecDepth 20000 in
theorem B_X12_seatOf_5 {l : Launch} {G : Gv} {lim : Nat × Nat} (M : Mem) (x0 : Nat) (x1 : Int32) (x2 : Int32) (x3 : Int32) (x4 : Int32) (K : (Int32 × Int32) ⊕ ((Int32)) → Option (Option Value × Mem)) (kk1 : ∀ (s3 : Int32) (s4 : Int32), SimR l G Y_X12_seatOf lim (K (.inl (s3, s4))) 5 [some (.inr (.inr x0)), some (.inl x1), some (.inl x2), some (.inl s3), some (.inl s4)] [] M) (kk2_0 : ∀ (s3 : Int32), SimR l G Y_X12_seatOf lim (K (.inr s3)) 59 [none, none, none, some (.inl s3), none] [] M) : Sim l G Y_X12_seatOf lim (f_X12_seatOf_B5 M x0 x1 x2 x3 x4) K 5 [some (.inr (.inr x0)), some (.inl x1), some (.inl x2), some (.inl x3), some (.inl x4)] [] M := by
  unfold f_X12_seatOf_B5
  refine s_run (b := [(.iload 4, 2), (.aload_n 0, 1)]) 8 [some (.inr (.inr x0)), some (.inl x1), some (.inl x2), some (.inl x3), some (.inl x4)] [.inr (.inr x0), .inl x4] (by decide +kernel) rfl ?_
  refine s_gI fl_12_162 rfl (by decide +kernel) (fun v1 => ?_)
  refine s_ic_ge (tgt := 59) (off := 48) (by decide +kernel) (by decide) (fun h2 => ?_) (fun h2 => ?_)
  · skip
    exact s_lsub (ls' := [none, none, none, some (.inl x3), none]) ⟨rfl, trivial⟩ (kk2_0 x3)
  · skip
    refine s_run (b := [(.iload_n 3, 1), (.iload 4, 2), (.iload_n 1, 1)]) 18 [some (.inr (.inr x0)), some (.inl x1), some (.inl x2), some (.inl x3), some (.inl x4)] [.inl x1, .inl x4, .inl x3] (by decide +kernel) rfl ?_
    refine s_ic_eq (tgt := 50) (off := 32) (by decide +kernel) (by decide) (fun h3 => ?_) (fun h3 => ?_)
    · skip
      refine s_run (b := [(.iconst 0, 1), (.iadd, 1), (.istore_n 3, 1), (.iinc 4 1, 3), (.goto (-51), 3)]) 5 [some (.inr (.inr x0)), some (.inl x1), some (.inl x2), some (.inl (x3 + (0 : Int32))), some (.inl (x4 + (1 : Int32)))] [] (by decide +kernel) rfl ?_
      exact s_lsub (ls' := [some (.inr (.inr x0)), some (.inl x1), some (.inl x2), some (.inl (x3 + (0 : Int32))), some (.inl (x4 + (1 : Int32)))]) ⟨rfl, ⟨rfl, ⟨rfl, ⟨rfl, ⟨rfl, trivial⟩⟩⟩⟩⟩ (kk1 (x3 + (0 : Int32)) (x4 + (1 : Int32)))
    · skip
      refine s_run (b := [(.aload_n 0, 1), (.iload 4, 2), (.iconst 1, 1)]) 25 [some (.inr (.inr x0)), some (.inl x1), some (.inl x2), some (.inl x3), some (.inl x4)] [.inl (1 : Int32), .inl x4, .inr (.inr x0), .inl x3] (by decide +kernel) rfl ?_
      refine s_cV (Z := Y_X12_of) (c := 12) (vs := [.inl x4, .inl (1 : Int32)]) (st := [.inl x3]) (rO := fun z => some (.inl z)) (mO := fun _ => M) zk_X12_of zi_X12_of q1558 rfl ⟨by decide, by decide⟩ ⟨rfl, rfl⟩ rfl rfl (Nat.le_of_ble_eq_true rfl) (by decide +kernel) (fun z hz => c_X12_of hz) (fun v4 => ?_)
      change Sim l G Y_X12_seatOf lim _ _ 28 [some (.inr (.inr x0)), some (.inl x1), some (.inl x2), some (.inl x3), some (.inl x4)] [.inl v4, .inl x3] M
      refine s_run (b := [(.iload_n 2, 1)]) 29 [some (.inr (.inr x0)), some (.inl x1), some (.inl x2), some (.inl x3), some (.inl x4)] [.inl x2, .inl v4, .inl x3] (by decide +kernel) rfl ?_
      refine s_cS (Z := Y_X12_far) (vs := [.inl v4, .inl x2]) (st := [.inl x3]) (rO := fun z => some (.inl z)) (mO := fun _ => M) zk_X12_far q1828 q1827 ⟨by decide, by decide⟩ ⟨rfl, rfl⟩ rfl rfl (Nat.le_of_ble_eq_true rfl) (by decide +kernel) (fun z hz => c_X12_far hz) (fun v5 => ?_)
      change Sim l G Y_X12_seatOf lim _ _ 32 [some (.inr (.inr x0)), some (.inl x1), some (.inl x2), some (.inl x3), some (.inl x4)] [.inl v5, .inl x3] M
      refine s_run (b := [(.aload_n 0, 1)]) 33 [some (.inr (.inr x0)), some (.inl x1), some (.inl x2), some (.inl x3), some (.inl x4)] [.inr (.inr x0), .inl v5, .inl x3] (by decide +kernel) rfl ?_
      refine s_gR fl_12_7 rfl (by decide +kernel) (fun v6 => ?_)
      refine s_run (b := [(.aload_n 0, 1)]) 37 [some (.inr (.inr x0)), some (.inl x1), some (.inl x2), some (.inl x3), some (.inl x4)] [.inr (.inr x0), .inr (.inr v6), .inl v5, .inl x3] (by decide +kernel) rfl ?_
      refine s_gI fl_12_159 rfl (by decide +kernel) (fun v7 => ?_)
      refine s_run (b := [(.iconst 2, 1), (.iadd, 1)]) 42 [some (.inr (.inr x0)), some (.inl x1), some (.inl x2), some (.inl x3), some (.inl x4)] [.inl (v7 + (2 : Int32)), .inr (.inr v6), .inl v5, .inl x3] (by decide +kernel) rfl ?_
      refine s_ia (by decide +kernel) (fun v8 => ?_)
      refine s_ic_gt (tgt := 50) (off := 7) (by decide +kernel) (by decide) (fun h9 => ?_) (fun h9 => ?_)
      · skip
        refine s_run (b := [(.iconst 0, 1), (.iadd, 1), (.istore_n 3, 1), (.iinc 4 1, 3), (.goto (-51), 3)]) 5 [some (.inr (.inr x0)), some (.inl x1), some (.inl x2), some (.inl (x3 + (0 : Int32))), some (.inl (x4 + (1 : Int32)))] [] (by decide +kernel) rfl ?_
        exact s_lsub (ls' := [some (.inr (.inr x0)), some (.inl x1), some (.inl x2), some (.inl (x3 + (0 : Int32))), some (.inl (x4 + (1 : Int32)))]) ⟨rfl, ⟨rfl, ⟨rfl, ⟨rfl, ⟨rfl, trivial⟩⟩⟩⟩⟩ (kk1 (x3 + (0 : Int32)) (x4 + (1 : Int32)))
      · skip
        refine s_run (b := [(.iconst 1, 1), (.goto 4, 3), (.iadd, 1), (.istore_n 3, 1), (.iinc 4 1, 3), (.goto (-51), 3)]) 5 [some (.inr (.inr x0)), some (.inl x1), some (.inl x2), some (.inl (x3 + (1 : Int32))), some (.inl (x4 + (1 : Int32)))] [] (by decide +kernel) rfl ?_
        exact s_lsub (ls' := [some (.inr (.inr x0)), some (.inl x1), some (.inl x2), some (.inl (x3 + (1 : Int32))), some (.inl (x4 + (1 : Int32)))]) ⟨rfl, ⟨rfl, ⟨rfl, ⟨rfl, ⟨rfl, trivial⟩⟩⟩⟩⟩ (kk1 (x3 + (1 : Int32)) (x4 + (1 : Int32)))
set_option maxRecDepth 20000 in
theorem L_X12_seatOf_5 {l : Launch} {G : Gv} {lim : Nat × Nat} (M : Mem) (x0 : Nat) (x1 : Int32) (x2 : Int32) (x3 : Int32) (x4 : Int32) (K : ((Int32)) → Option (Option Value × Mem)) (kk2_0 : ∀ r : Int32, SimR l G Y_X12_seatOf lim (K r) 59 [none, none, none, some (.inl r), none] [] M) : Sim l G Y_X12_seatOf lim (f_X12_seatOf_L5 M x0 x1 x2 x3 x4) K 5 [some (.inr (.inr x0)), some (.inl x1), some (.inl x2), some (.inl x3), some (.inl x4)] [] M :=
  s_iter (f := fun s : Int32 × Int32 => f_X12_seatOf_B5 M x0 x1 x2 s.1 s.2) (hd := 5) (cl := fun s => [some (.inr (.inr x0)), some (.inl x1), some (.inl x2), some (.inl s.1), some (.inl s.2)]) (cm := fun s => M) (xp := fun _ => 59) (xl := fun r => [none, none, none, some (.inl r), none]) (xm := fun r => M) (fun s K h1 h2 => B_X12_seatOf_5 M x0 x1 x2 s.1 s.2 K (fun a3 a4 => h1 (a3, a4)) (fun a3 => h2 a3)) 1048576 (x3, x4) K kk2_0
def f_X12_seatOf (M : Mem) (x0 : Nat) (x1 : Int32) (x2 : Int32) : Option (Int32) :=
  (f_X12_seatOf_L5 M x0 x1 x2 (0 : Int32) (0 : Int32)).bind fun r1 =>
  some r1
set_option maxRecDepth 20000 in
theorem S_X12_seatOf {l : Launch} {G : Gv} {lim : Nat × Nat} (M : Mem) (x0 : Nat) (x1 : Int32) (x2 : Int32) : Sim l G Y_X12_seatOf lim (f_X12_seatOf M x0 x1 x2) (fun z => some (some (.int z), M)) 0 [some (.inr (.inr x0)), some (.inl x1), some (.inl x2), none, none] [] M := by
  unfold f_X12_seatOf
  refine s_run (b := [(.iconst 0, 1), (.istore_n 3, 1), (.iconst 0, 1), (.istore 4, 2)]) 5 [some (.inr (.inr x0)), some (.inl x1), some (.inl x2), some (.inl (0 : Int32)), some (.inl (0 : Int32))] [] (by decide +kernel) rfl ?_
  refine s_lsub (ls' := [some (.inr (.inr x0)), some (.inl x1), some (.inl x2), some (.inl (0 : Int32)), some (.inl (0 : Int32))]) ⟨rfl, ⟨rfl, ⟨rfl, ⟨rfl, ⟨rfl, trivial⟩⟩⟩⟩⟩ ?_
  refine sim_bind (L_X12_seatOf_5 M x0 x1 x2 (0 : Int32) (0 : Int32) _ (fun r1 => ?_))
  change Sim l G Y_X12_seatOf lim _ _ 59 [none, none, none, some (.inl r1), none] [] M
  refine s_run (b := [(.iload_n 3, 1)]) 60 [none, none, none, some (.inl r1), none] [.inl r1] (by decide +kernel) rfl ?_
  exact s_iret (by decide +kernel) rfl
set_option maxRecDepth 20000 in
theorem c_X12_seatOf {l : Launch} {G : Gv} {M : Mem} {x0 : Nat} {x1 : Int32} {x2 : Int32} {z : Int32} (h : f_X12_seatOf M x0 x1 x2 = some z) : MetS l G Y_X12_seatOf [.inr (.inr x0), .inl x1, .inl x2] M (some (.int z)) M :=
  met_of (ls0 := [some (.inr (.inr x0)), some (.inl x1), some (.inl x2), none, none]) (by decide) rfl (lv_in (m := 2) rfl) (sl_le (Nat.le_of_ble_eq_true rfl)) (by rw [h]; rfl) (Or.inl ⟨rfl, rfl⟩) (S_X12_seatOf M x0 x1 x2)
def f_X12_seat_B24 (M : Mem) (x0 : Nat) (x2 : Int32) (x3 : Int32) (x4 : Int32) (x5 : Int32) : Option ((Int32 × Int32) ⊕ ((Int32))) :=
  (if (30 : Int32) < x5 then
    some (.inr x4)
  else
    (ob M 12 x0).bind fun _ => (f_X12_seatOf M x0 x2 x5).bind fun v2 =>
    (ob M 12 x0).bind fun _ => (f_X12_seatOf M x0 x2 x4).bind fun v3 =>
    (if v3 ≤ v2 then
      some (.inl (x4, (x5 + (1 : Int32))))
    else
      some (.inl (x5, (x5 + (1 : Int32))))))
def f_X12_seat_L24 (M : Mem) (x0 : Nat) (x2 : Int32) (x3 : Int32) (x4 : Int32) (x5 : Int32) : Option ((Int32)) := iter (fun s : Int32 × Int32 => f_X12_seat_B24 M x0 x2 x3 s.1 s.2) 1048576 (x4, x5)
set_option maxRecDepth 20000 in
theorem B_X12_seat_24 {l : Launch} {G : Gv} {lim : Nat × Nat} (M : Mem) (x0 : Nat) (x2 : Int32) (x3 : Int32) (x4 : Int32) (x5 : Int32) (K : (Int32 × Int32) ⊕ ((Int32)) → Option (Option Value × Mem)) (kk1 : ∀ (s4 : Int32) (s5 : Int32), SimR l G Y_X12_seat lim (K (.inl (s4, s5))) 24 [some (.inr (.inr x0)), none, some (.inl x2), some (.inl x3), some (.inl s4), some (.inl s5)] [] M) (kk2_0 : ∀ (s4 : Int32), SimR l G Y_X12_seat lim (K (.inr s4)) 63 [some (.inr (.inr x0)), none, some (.inl x2), some (.inl x3), some (.inl s4), none] [] M) : Sim l G Y_X12_seat lim (f_X12_seat_B24 M x0 x2 x3 x4 x5) K 24 [some (.inr (.inr x0)), none, some (.inl x2), some (.inl x3), some (.inl x4), some (.inl x5)] [] M := by
  unfold f_X12_seat_B24
  refine s_run (b := [(.iload 5, 2), (.bipush 30, 2)]) 28 [some (.inr (.inr x0)), none, some (.inl x2), some (.inl x3), some (.inl x4), some (.inl x5)] [.inl (30 : Int32), .inl x5] (by decide +kernel) rfl ?_
  refine s_ic_gt (tgt := 63) (off := 35) (by decide +kernel) (by decide) (fun h1 => ?_) (fun h1 => ?_)
  · skip
    exact s_lsub (ls' := [some (.inr (.inr x0)), none, some (.inl x2), some (.inl x3), some (.inl x4), none]) ⟨rfl, ⟨rfl, ⟨rfl, ⟨rfl, trivial⟩⟩⟩⟩ (kk2_0 x4)
  · skip
    refine s_run (b := [(.aload_n 0, 1), (.iload_n 2, 1), (.iload 5, 2)]) 35 [some (.inr (.inr x0)), none, some (.inl x2), some (.inl x3), some (.inl x4), some (.inl x5)] [.inl x5, .inl x2, .inr (.inr x0)] (by decide +kernel) rfl ?_
    refine s_cV (Z := Y_X12_seatOf) (c := 12) (vs := [.inl x2, .inl x5]) (st := []) (rO := fun z => some (.inl z)) (mO := fun _ => M) zk_X12_seatOf zi_X12_seatOf q1842 rfl ⟨by decide, by decide⟩ ⟨rfl, rfl⟩ rfl rfl (Nat.le_of_ble_eq_true rfl) (by decide +kernel) (fun z hz => c_X12_seatOf hz) (fun v2 => ?_)
    change Sim l G Y_X12_seat lim _ _ 38 [some (.inr (.inr x0)), none, some (.inl x2), some (.inl x3), some (.inl x4), some (.inl x5)] [.inl v2] M
    refine s_run (b := [(.aload_n 0, 1), (.iload_n 2, 1), (.iload 4, 2)]) 42 [some (.inr (.inr x0)), none, some (.inl x2), some (.inl x3), some (.inl x4), some (.inl x5)] [.inl x4, .inl x2, .inr (.inr x0), .inl v2] (by decide +kernel) rfl ?_
    refine s_cV (Z := Y_X12_seatOf) (c := 12) (vs := [.inl x2, .inl x4]) (st := [.inl v2]) (rO := fun z => some (.inl z)) (mO := fun _ => M) zk_X12_seatOf zi_X12_seatOf q1842 rfl ⟨by decide, by decide⟩ ⟨rfl, rfl⟩ rfl rfl (Nat.le_of_ble_eq_true rfl) (by decide +kernel) (fun z hz => c_X12_seatOf hz) (fun v3 => ?_)
    change Sim l G Y_X12_seat lim _ _ 45 [some (.inr (.inr x0)), none, some (.inl x2), some (.inl x3), some (.inl x4), some (.inl x5)] [.inl v3, .inl v2] M
    refine s_ic_ge (tgt := 53) (off := 8) (by decide +kernel) (by decide) (fun h4 => ?_) (fun h4 => ?_)
    · skip
      refine s_run (b := [(.iload 4, 2), (.istore 4, 2), (.iinc 5 1, 3), (.goto (-36), 3)]) 24 [some (.inr (.inr x0)), none, some (.inl x2), some (.inl x3), some (.inl x4), some (.inl (x5 + (1 : Int32)))] [] (by decide +kernel) rfl ?_
      exact s_lsub (ls' := [some (.inr (.inr x0)), none, some (.inl x2), some (.inl x3), some (.inl x4), some (.inl (x5 + (1 : Int32)))]) ⟨rfl, ⟨rfl, ⟨rfl, ⟨rfl, ⟨rfl, trivial⟩⟩⟩⟩⟩ (kk1 x4 (x5 + (1 : Int32)))
    · skip
      refine s_run (b := [(.iload 5, 2), (.goto 5, 3), (.istore 4, 2), (.iinc 5 1, 3), (.goto (-36), 3)]) 24 [some (.inr (.inr x0)), none, some (.inl x2), some (.inl x3), some (.inl x5), some (.inl (x5 + (1 : Int32)))] [] (by decide +kernel) rfl ?_
      exact s_lsub (ls' := [some (.inr (.inr x0)), none, some (.inl x2), some (.inl x3), some (.inl x5), some (.inl (x5 + (1 : Int32)))]) ⟨rfl, ⟨rfl, ⟨rfl, ⟨rfl, ⟨rfl, trivial⟩⟩⟩⟩⟩ (kk1 x5 (x5 + (1 : Int32)))
set_option maxRecDepth 20000 in
theorem L_X12_seat_24 {l : Launch} {G : Gv} {lim : Nat × Nat} (M : Mem) (x0 : Nat) (x2 : Int32) (x3 : Int32) (x4 : Int32) (x5 : Int32) (K : ((Int32)) → Option (Option Value × Mem)) (kk2_0 : ∀ r : Int32, SimR l G Y_X12_seat lim (K r) 63 [some (.inr (.inr x0)), none, some (.inl x2), some (.inl x3), some (.inl r), none] [] M) : Sim l G Y_X12_seat lim (f_X12_seat_L24 M x0 x2 x3 x4 x5) K 24 [some (.inr (.inr x0)), none, some (.inl x2), some (.inl x3), some (.inl x4), some (.inl x5)] [] M :=
  s_iter (f := fun s : Int32 × Int32 => f_X12_seat_B24 M x0 x2 x3 s.1 s.2) (hd := 24) (cl := fun s => [some (.inr (.inr x0)), none, some (.inl x2), some (.inl x3), some (.inl s.1), some (.inl s.2)]) (cm := fun s => M) (xp := fun _ => 63) (xl := fun r => [some (.inr (.inr x0)), none, some (.inl x2), some (.inl x3), some (.inl r), none]) (xm := fun r => M) (fun s K h1 h2 => B_X12_seat_24 M x0 x2 x3 s.1 s.2 K (fun a4 a5 => h1 (a4, a5)) (fun a4 => h2 a4)) 1048576 (x4, x5) K kk2_0
def f_X12_seat (M : Mem) (x0 : Nat) (x1 : Int32) (x2 : Int32) (x3 : Int32) : Option (Int32 × Mem) :=
  (ob M 12 x0).bind fun _ => (f_X12_isOffice M x0 x1).bind fun z1 =>
  (if z1.1 = 0 then
    some ((-1 : Int32), z1.2)
  else
    (ob z1.2 12 x0).bind fun _ => (f_X12_isDesk z1.2 x0 x2).bind fun v3 =>
    (if v3 = 0 then
      some ((-1 : Int32), z1.2)
    else
      (f_X12_seat_L24 z1.2 x0 x2 x3 (0 : Int32) (1 : Int32)).bind fun r5 =>
      (if x3 = 0 then
        some (r5, z1.2)
      else
        (ob z1.2 12 x0).bind fun _ => (f_X12_seatOf z1.2 x0 x2 r5).bind fun v7 =>
        some (v7, z1.2))))
set_option maxRecDepth 20000 in
theorem S_X12_seat {l : Launch} {G : Gv} {lim : Nat × Nat} (M : Mem) (x0 : Nat) (x1 : Int32) (x2 : Int32) (x3 : Int32) : Sim l G Y_X12_seat lim (f_X12_seat M x0 x1 x2 x3) (fun z => some (some (.int z.1), z.2)) 0 [some (.inr (.inr x0)), some (.inl x1), some (.inl x2), some (.inl x3), none, none] [] M := by
  unfold f_X12_seat
  refine s_run (b := [(.aload_n 0, 1), (.iload_n 1, 1)]) 2 [some (.inr (.inr x0)), some (.inl x1), some (.inl x2), some (.inl x3), none, none] [.inl x1, .inr (.inr x0)] (by decide +kernel) rfl ?_
  refine s_cV (Z := Y_X12_isOffice) (c := 12) (vs := [.inl x1]) (st := []) (rO := fun z => some (.inl z.1)) (mO := fun z => z.2) zk_X12_isOffice zi_X12_isOffice q1550 rfl ⟨by decide, by decide⟩ ⟨rfl, rfl⟩ rfl rfl (Nat.le_of_ble_eq_true rfl) (by decide +kernel) (fun z hz => c_X12_isOffice hz) (fun z1 => ?_)
  change Sim l G Y_X12_seat lim _ _ 5 [some (.inr (.inr x0)), some (.inl x1), some (.inl x2), some (.inl x3), none, none] [.inl z1.1] z1.2
  refine s_if_eq (tgt := 16) (off := 11) (by decide +kernel) (by decide) (fun h2 => ?_) (fun h2 => ?_)
  · skip
    refine s_run (b := [(.iconst (-1), 1)]) 17 [some (.inr (.inr x0)), some (.inl x1), some (.inl x2), some (.inl x3), none, none] [.inl (-1 : Int32)] (by decide +kernel) rfl ?_
    exact s_iret (by decide +kernel) rfl
  · skip
    refine s_run (b := [(.aload_n 0, 1), (.iload_n 2, 1)]) 10 [some (.inr (.inr x0)), some (.inl x1), some (.inl x2), some (.inl x3), none, none] [.inl x2, .inr (.inr x0)] (by decide +kernel) rfl ?_
    refine s_cV (Z := Y_X12_isDesk) (c := 12) (vs := [.inl x2]) (st := []) (rO := fun z => some (.inl z)) (mO := fun _ => z1.2) zk_X12_isDesk zi_X12_isDesk q1554 rfl ⟨by decide, by decide⟩ ⟨rfl, rfl⟩ rfl rfl (Nat.le_of_ble_eq_true rfl) (by decide +kernel) (fun z hz => c_X12_isDesk hz) (fun v3 => ?_)
    change Sim l G Y_X12_seat lim _ _ 13 [some (.inr (.inr x0)), some (.inl x1), some (.inl x2), some (.inl x3), none, none] [.inl v3] z1.2
    refine s_if_ne (tgt := 18) (off := 5) (by decide +kernel) (by decide) (fun h4 => ?_) (fun h4 => ?_)
    · skip
      refine s_run (b := [(.iconst (-1), 1)]) 17 [some (.inr (.inr x0)), some (.inl x1), some (.inl x2), some (.inl x3), none, none] [.inl (-1 : Int32)] (by decide +kernel) rfl ?_
      exact s_iret (by decide +kernel) rfl
    · skip
      refine s_run (b := [(.iconst 0, 1), (.istore 4, 2), (.iconst 1, 1), (.istore 5, 2)]) 24 [some (.inr (.inr x0)), some (.inl x1), some (.inl x2), some (.inl x3), some (.inl (0 : Int32)), some (.inl (1 : Int32))] [] (by decide +kernel) rfl ?_
      refine s_lsub (ls' := [some (.inr (.inr x0)), none, some (.inl x2), some (.inl x3), some (.inl (0 : Int32)), some (.inl (1 : Int32))]) ⟨rfl, ⟨rfl, ⟨rfl, ⟨rfl, ⟨rfl, trivial⟩⟩⟩⟩⟩ ?_
      refine sim_bind (L_X12_seat_24 z1.2 x0 x2 x3 (0 : Int32) (1 : Int32) _ (fun r5 => ?_))
      change Sim l G Y_X12_seat lim _ _ 63 [some (.inr (.inr x0)), none, some (.inl x2), some (.inl x3), some (.inl r5), none] [] z1.2
      refine s_run (b := [(.iload_n 3, 1)]) 64 [some (.inr (.inr x0)), none, some (.inl x2), some (.inl x3), some (.inl r5), none] [.inl x3] (by decide +kernel) rfl ?_
      refine s_if_eq (tgt := 77) (off := 13) (by decide +kernel) (by decide) (fun h6 => ?_) (fun h6 => ?_)
      · skip
        refine s_run (b := [(.iload 4, 2)]) 79 [some (.inr (.inr x0)), none, some (.inl x2), some (.inl x3), some (.inl r5), none] [.inl r5] (by decide +kernel) rfl ?_
        exact s_iret (by decide +kernel) rfl
      · skip
        refine s_run (b := [(.aload_n 0, 1), (.iload_n 2, 1), (.iload 4, 2)]) 71 [some (.inr (.inr x0)), none, some (.inl x2), some (.inl x3), some (.inl r5), none] [.inl r5, .inl x2, .inr (.inr x0)] (by decide +kernel) rfl ?_
        refine s_cV (Z := Y_X12_seatOf) (c := 12) (vs := [.inl x2, .inl r5]) (st := []) (rO := fun z => some (.inl z)) (mO := fun _ => z1.2) zk_X12_seatOf zi_X12_seatOf q1842 rfl ⟨by decide, by decide⟩ ⟨rfl, rfl⟩ rfl rfl (Nat.le_of_ble_eq_true rfl) (by decide +kernel) (fun z hz => c_X12_seatOf hz) (fun v7 => ?_)
        change Sim l G Y_X12_seat lim _ _ 74 [some (.inr (.inr x0)), none, some (.inl x2), some (.inl x3), some (.inl r5), none] [.inl v7] z1.2
        refine s_run (b := [(.goto 5, 3)]) 79 [some (.inr (.inr x0)), none, some (.inl x2), some (.inl x3), some (.inl r5), none] [.inl v7] (by decide +kernel) rfl ?_
        exact s_iret (by decide +kernel) rfl
set_option maxRecDepth 20000 in
theorem c_X12_seat {l : Launch} {G : Gv} {M : Mem} {x0 : Nat} {x1 : Int32} {x2 : Int32} {x3 : Int32} {z : Int32 × Mem} (h : f_X12_seat M x0 x1 x2 x3 = some z) : MetS l G Y_X12_seat [.inr (.inr x0), .inl x1, .inl x2, .inl x3] M (some (.int z.1)) z.2 :=
  met_of (ls0 := [some (.inr (.inr x0)), some (.inl x1), some (.inl x2), some (.inl x3), none, none]) (by decide) rfl (lv_in (m := 2) rfl) (sl_le (Nat.le_of_ble_eq_true rfl)) (by rw [h]; rfl) (Or.inl ⟨rfl, rfl⟩) (S_X12_seat M x0 x1 x2 x3)
def f_X12_state (M : Mem) (x0 : Nat) (x1 : Int32) (x2 : Int32) (x3 : Int32) (x4 : Int32) : Option (Int32 × Mem) :=
  (ob M 12 x0).bind fun _ => (f_X12_isOffice M x0 x1).bind fun z1 =>
  (if z1.1 = 0 then
    some ((-2 : Int32), z1.2)
  else
    (ob z1.2 12 x0).bind fun _ => (f_X12_isDay z1.2 x0 x2).bind fun z3 =>
    (if z3.1 = 0 then
      some ((-2 : Int32), z3.2)
    else
      (if x3 < 0 then
        some ((-2 : Int32), z3.2)
      else
        (if 0 ≤ x4 then
          (ob z3.2 12 x0).bind fun _ => (f_X12_runs z3.2 x0 x3).bind fun z7 =>
          (gI z7 12 x0 27).bind fun v8 =>
          (if v8 = x3 then
            (ob z7 12 x0).bind fun _ => (f_X12_nowOf z7 x0 x4).bind fun v10 =>
            some (v10, z7)
          else
            some ((-2 : Int32), z7))
        else
          some ((-2 : Int32), z3.2)))))
set_option maxRecDepth 20000 in
theorem S_X12_state {l : Launch} {G : Gv} {lim : Nat × Nat} (M : Mem) (x0 : Nat) (x1 : Int32) (x2 : Int32) (x3 : Int32) (x4 : Int32) : Sim l G Y_X12_state lim (f_X12_state M x0 x1 x2 x3 x4) (fun z => some (some (.int z.1), z.2)) 0 [some (.inr (.inr x0)), some (.inl x1), some (.inl x2), some (.inl x3), some (.inl x4)] [] M := by
  unfold f_X12_state
  refine s_run (b := [(.aload_n 0, 1), (.iload_n 1, 1)]) 2 [some (.inr (.inr x0)), some (.inl x1), some (.inl x2), some (.inl x3), some (.inl x4)] [.inl x1, .inr (.inr x0)] (by decide +kernel) rfl ?_
  refine s_cV (Z := Y_X12_isOffice) (c := 12) (vs := [.inl x1]) (st := []) (rO := fun z => some (.inl z.1)) (mO := fun z => z.2) zk_X12_isOffice zi_X12_isOffice q1550 rfl ⟨by decide, by decide⟩ ⟨rfl, rfl⟩ rfl rfl (Nat.le_of_ble_eq_true rfl) (by decide +kernel) (fun z hz => c_X12_isOffice hz) (fun z1 => ?_)
  change Sim l G Y_X12_state lim _ _ 5 [some (.inr (.inr x0)), some (.inl x1), some (.inl x2), some (.inl x3), some (.inl x4)] [.inl z1.1] z1.2
  refine s_if_eq (tgt := 25) (off := 20) (by decide +kernel) (by decide) (fun h2 => ?_) (fun h2 => ?_)
  · skip
    refine s_run (b := [(.bipush (-2), 2)]) 27 [some (.inr (.inr x0)), some (.inl x1), some (.inl x2), some (.inl x3), some (.inl x4)] [.inl (-2 : Int32)] (by decide +kernel) rfl ?_
    exact s_iret (by decide +kernel) rfl
  · skip
    refine s_run (b := [(.aload_n 0, 1), (.iload_n 2, 1)]) 10 [some (.inr (.inr x0)), some (.inl x1), some (.inl x2), some (.inl x3), some (.inl x4)] [.inl x2, .inr (.inr x0)] (by decide +kernel) rfl ?_
    refine s_cV (Z := Y_X12_isDay) (c := 12) (vs := [.inl x2]) (st := []) (rO := fun z => some (.inl z.1)) (mO := fun z => z.2) zk_X12_isDay zi_X12_isDay q1574 rfl ⟨by decide, by decide⟩ ⟨rfl, rfl⟩ rfl rfl (Nat.le_of_ble_eq_true rfl) (by decide +kernel) (fun z hz => c_X12_isDay hz) (fun z3 => ?_)
    change Sim l G Y_X12_state lim _ _ 13 [some (.inr (.inr x0)), some (.inl x1), some (.inl x2), some (.inl x3), some (.inl x4)] [.inl z3.1] z3.2
    refine s_if_eq (tgt := 25) (off := 12) (by decide +kernel) (by decide) (fun h4 => ?_) (fun h4 => ?_)
    · skip
      refine s_run (b := [(.bipush (-2), 2)]) 27 [some (.inr (.inr x0)), some (.inl x1), some (.inl x2), some (.inl x3), some (.inl x4)] [.inl (-2 : Int32)] (by decide +kernel) rfl ?_
      exact s_iret (by decide +kernel) rfl
    · skip
      refine s_run (b := [(.iload_n 3, 1)]) 17 [some (.inr (.inr x0)), some (.inl x1), some (.inl x2), some (.inl x3), some (.inl x4)] [.inl x3] (by decide +kernel) rfl ?_
      refine s_if_lt (tgt := 25) (off := 8) (by decide +kernel) (by decide) (fun h5 => ?_) (fun h5 => ?_)
      · skip
        refine s_run (b := [(.bipush (-2), 2)]) 27 [some (.inr (.inr x0)), some (.inl x1), some (.inl x2), some (.inl x3), some (.inl x4)] [.inl (-2 : Int32)] (by decide +kernel) rfl ?_
        exact s_iret (by decide +kernel) rfl
      · skip
        refine s_run (b := [(.iload 4, 2)]) 22 [some (.inr (.inr x0)), some (.inl x1), some (.inl x2), some (.inl x3), some (.inl x4)] [.inl x4] (by decide +kernel) rfl ?_
        refine s_if_ge (tgt := 28) (off := 6) (by decide +kernel) (by decide) (fun h6 => ?_) (fun h6 => ?_)
        · skip
          refine s_run (b := [(.aload_n 0, 1), (.iload_n 3, 1)]) 30 [some (.inr (.inr x0)), some (.inl x1), some (.inl x2), some (.inl x3), some (.inl x4)] [.inl x3, .inr (.inr x0)] (by decide +kernel) rfl ?_
          refine s_cV (Z := Y_X12_runs) (c := 12) (vs := [.inl x3]) (st := []) (rO := fun _ => none) (mO := fun z => z) zk_X12_runs zi_X12_runs q1582 rfl ⟨by decide, by decide⟩ ⟨rfl, rfl⟩ rfl rfl (Nat.le_of_ble_eq_true rfl) (by decide +kernel) (fun z hz => c_X12_runs hz) (fun z7 => ?_)
          change Sim l G Y_X12_state lim _ _ 33 [some (.inr (.inr x0)), some (.inl x1), some (.inl x2), some (.inl x3), some (.inl x4)] [] z7
          refine s_run (b := [(.aload_n 0, 1)]) 34 [some (.inr (.inr x0)), some (.inl x1), some (.inl x2), some (.inl x3), some (.inl x4)] [.inr (.inr x0)] (by decide +kernel) rfl ?_
          refine s_gI fl_12_238 rfl (by decide +kernel) (fun v8 => ?_)
          refine s_run (b := [(.iload_n 3, 1)]) 38 [some (.inr (.inr x0)), some (.inl x1), some (.inl x2), some (.inl x3), some (.inl x4)] [.inl x3, .inl v8] (by decide +kernel) rfl ?_
          refine s_ic_ne (tgt := 50) (off := 12) (by decide +kernel) (by decide) (fun h9 => ?_) (fun h9 => ?_)
          · skip
            refine s_run (b := [(.aload_n 0, 1), (.iload 4, 2)]) 44 [some (.inr (.inr x0)), some (.inl x1), some (.inl x2), some (.inl x3), some (.inl x4)] [.inl x4, .inr (.inr x0)] (by decide +kernel) rfl ?_
            refine s_cV (Z := Y_X12_nowOf) (c := 12) (vs := [.inl x4]) (st := []) (rO := fun z => some (.inl z)) (mO := fun _ => z7) zk_X12_nowOf zi_X12_nowOf q1637 rfl ⟨by decide, by decide⟩ ⟨rfl, rfl⟩ rfl rfl (Nat.le_of_ble_eq_true rfl) (by decide +kernel) (fun z hz => c_X12_nowOf hz) (fun v10 => ?_)
            change Sim l G Y_X12_state lim _ _ 47 [some (.inr (.inr x0)), some (.inl x1), some (.inl x2), some (.inl x3), some (.inl x4)] [.inl v10] z7
            refine s_run (b := [(.goto 5, 3)]) 52 [some (.inr (.inr x0)), some (.inl x1), some (.inl x2), some (.inl x3), some (.inl x4)] [.inl v10] (by decide +kernel) rfl ?_
            exact s_iret (by decide +kernel) rfl
          · skip
            refine s_run (b := [(.bipush (-2), 2)]) 52 [some (.inr (.inr x0)), some (.inl x1), some (.inl x2), some (.inl x3), some (.inl x4)] [.inl (-2 : Int32)] (by decide +kernel) rfl ?_
            exact s_iret (by decide +kernel) rfl
        · skip
          refine s_run (b := [(.bipush (-2), 2)]) 27 [some (.inr (.inr x0)), some (.inl x1), some (.inl x2), some (.inl x3), some (.inl x4)] [.inl (-2 : Int32)] (by decide +kernel) rfl ?_
          exact s_iret (by decide +kernel) rfl
set_option maxRecDepth 20000 in
theorem c_X12_state {l : Launch} {G : Gv} {M : Mem} {x0 : Nat} {x1 : Int32} {x2 : Int32} {x3 : Int32} {x4 : Int32} {z : Int32 × Mem} (h : f_X12_state M x0 x1 x2 x3 x4 = some z) : MetS l G Y_X12_state [.inr (.inr x0), .inl x1, .inl x2, .inl x3, .inl x4] M (some (.int z.1)) z.2 :=
  met_of (ls0 := [some (.inr (.inr x0)), some (.inl x1), some (.inl x2), some (.inl x3), some (.inl x4)]) (by decide) rfl (lv_in (m := 0) rfl) (sl_le (Nat.le_of_ble_eq_true rfl)) (by rw [h]; rfl) (Or.inl ⟨rfl, rfl⟩) (S_X12_state M x0 x1 x2 x3 x4)
def f_X12_stop (M : Mem) (x0 : Nat) (x1 : Int32) (x2 : Int32) : Option (Int32 × Mem) :=
  (ob M 12 x0).bind fun _ => (f_X12_isOffice M x0 x1).bind fun z1 =>
  (if z1.1 = 0 then
    some ((-1 : Int32), z1.2)
  else
    (ob z1.2 12 x0).bind fun _ => (f_X12_isDay z1.2 x0 x2).bind fun z3 =>
    (if z3.1 = 0 then
      some ((-1 : Int32), z3.2)
    else
      (ob z3.2 12 x0).bind fun _ => (f_X12_runs z3.2 x0 (40 : Int32)).bind fun z5 =>
      (gI z5 12 x0 27).bind fun v6 =>
      some (v6, z5)))
set_option maxRecDepth 20000 in
theorem S_X12_stop {l : Launch} {G : Gv} {lim : Nat × Nat} (M : Mem) (x0 : Nat) (x1 : Int32) (x2 : Int32) : Sim l G Y_X12_stop lim (f_X12_stop M x0 x1 x2) (fun z => some (some (.int z.1), z.2)) 0 [some (.inr (.inr x0)), some (.inl x1), some (.inl x2)] [] M := by
  unfold f_X12_stop
  refine s_run (b := [(.aload_n 0, 1), (.iload_n 1, 1)]) 2 [some (.inr (.inr x0)), some (.inl x1), some (.inl x2)] [.inl x1, .inr (.inr x0)] (by decide +kernel) rfl ?_
  refine s_cV (Z := Y_X12_isOffice) (c := 12) (vs := [.inl x1]) (st := []) (rO := fun z => some (.inl z.1)) (mO := fun z => z.2) zk_X12_isOffice zi_X12_isOffice q1550 rfl ⟨by decide, by decide⟩ ⟨rfl, rfl⟩ rfl rfl (Nat.le_of_ble_eq_true rfl) (by decide +kernel) (fun z hz => c_X12_isOffice hz) (fun z1 => ?_)
  change Sim l G Y_X12_stop lim _ _ 5 [some (.inr (.inr x0)), some (.inl x1), some (.inl x2)] [.inl z1.1] z1.2
  refine s_if_eq (tgt := 16) (off := 11) (by decide +kernel) (by decide) (fun h2 => ?_) (fun h2 => ?_)
  · skip
    refine s_run (b := [(.iconst (-1), 1)]) 17 [some (.inr (.inr x0)), some (.inl x1), some (.inl x2)] [.inl (-1 : Int32)] (by decide +kernel) rfl ?_
    exact s_iret (by decide +kernel) rfl
  · skip
    refine s_run (b := [(.aload_n 0, 1), (.iload_n 2, 1)]) 10 [some (.inr (.inr x0)), some (.inl x1), some (.inl x2)] [.inl x2, .inr (.inr x0)] (by decide +kernel) rfl ?_
    refine s_cV (Z := Y_X12_isDay) (c := 12) (vs := [.inl x2]) (st := []) (rO := fun z => some (.inl z.1)) (mO := fun z => z.2) zk_X12_isDay zi_X12_isDay q1574 rfl ⟨by decide, by decide⟩ ⟨rfl, rfl⟩ rfl rfl (Nat.le_of_ble_eq_true rfl) (by decide +kernel) (fun z hz => c_X12_isDay hz) (fun z3 => ?_)
    change Sim l G Y_X12_stop lim _ _ 13 [some (.inr (.inr x0)), some (.inl x1), some (.inl x2)] [.inl z3.1] z3.2
    refine s_if_ne (tgt := 18) (off := 5) (by decide +kernel) (by decide) (fun h4 => ?_) (fun h4 => ?_)
    · skip
      refine s_run (b := [(.iconst (-1), 1)]) 17 [some (.inr (.inr x0)), some (.inl x1), some (.inl x2)] [.inl (-1 : Int32)] (by decide +kernel) rfl ?_
      exact s_iret (by decide +kernel) rfl
    · skip
      refine s_run (b := [(.aload_n 0, 1), (.bipush 40, 2)]) 21 [some (.inr (.inr x0)), some (.inl x1), some (.inl x2)] [.inl (40 : Int32), .inr (.inr x0)] (by decide +kernel) rfl ?_
      refine s_cV (Z := Y_X12_runs) (c := 12) (vs := [.inl (40 : Int32)]) (st := []) (rO := fun _ => none) (mO := fun z => z) zk_X12_runs zi_X12_runs q1582 rfl ⟨by decide, by decide⟩ ⟨rfl, rfl⟩ rfl rfl (Nat.le_of_ble_eq_true rfl) (by decide +kernel) (fun z hz => c_X12_runs hz) (fun z5 => ?_)
      change Sim l G Y_X12_stop lim _ _ 24 [some (.inr (.inr x0)), some (.inl x1), some (.inl x2)] [] z5
      refine s_run (b := [(.aload_n 0, 1)]) 25 [some (.inr (.inr x0)), some (.inl x1), some (.inl x2)] [.inr (.inr x0)] (by decide +kernel) rfl ?_
      refine s_gI fl_12_238 rfl (by decide +kernel) (fun v6 => ?_)
      exact s_iret (by decide +kernel) rfl
set_option maxRecDepth 20000 in
theorem c_X12_stop {l : Launch} {G : Gv} {M : Mem} {x0 : Nat} {x1 : Int32} {x2 : Int32} {z : Int32 × Mem} (h : f_X12_stop M x0 x1 x2 = some z) : MetS l G Y_X12_stop [.inr (.inr x0), .inl x1, .inl x2] M (some (.int z.1)) z.2 :=
  met_of (ls0 := [some (.inr (.inr x0)), some (.inl x1), some (.inl x2)]) (by decide) rfl (lv_in (m := 0) rfl) (sl_le (Nat.le_of_ble_eq_true rfl)) (by rw [h]; rfl) (Or.inl ⟨rfl, rfl⟩) (S_X12_stop M x0 x1 x2)
def f_X12_byteAt (M : Mem) (x0 : Nat) (x1 : Int32) : Option (Int32) :=
  (gI M 12 x0 2).bind fun v1 =>
  (if v1 ≤ x1 then
    some (-1 : Int32)
  else
    (gR M 12 x0 0).bind fun v3 =>
    (aI M 0 v3 ((10 : Int32) + x1)).bind fun v4 =>
    some v4)
set_option maxRecDepth 20000 in
theorem S_X12_byteAt {l : Launch} {G : Gv} {lim : Nat × Nat} (M : Mem) (x0 : Nat) (x1 : Int32) : Sim l G Y_X12_byteAt lim (f_X12_byteAt M x0 x1) (fun z => some (some (.int z), M)) 0 [some (.inr (.inr x0)), some (.inl x1)] [] M := by
  unfold f_X12_byteAt
  refine s_run (b := [(.iload_n 1, 1), (.aload_n 0, 1)]) 2 [some (.inr (.inr x0)), some (.inl x1)] [.inr (.inr x0), .inl x1] (by decide +kernel) rfl ?_
  refine s_gI fl_12_54 rfl (by decide +kernel) (fun v1 => ?_)
  refine s_ic_ge (tgt := 20) (off := 15) (by decide +kernel) (by decide) (fun h2 => ?_) (fun h2 => ?_)
  · skip
    refine s_run (b := [(.iconst (-1), 1)]) 21 [some (.inr (.inr x0)), some (.inl x1)] [.inl (-1 : Int32)] (by decide +kernel) rfl ?_
    exact s_iret (by decide +kernel) rfl
  · skip
    refine s_run (b := [(.aload_n 0, 1)]) 9 [some (.inr (.inr x0)), some (.inl x1)] [.inr (.inr x0)] (by decide +kernel) rfl ?_
    refine s_gR fl_12_7 rfl (by decide +kernel) (fun v3 => ?_)
    refine s_run (b := [(.bipush 10, 2), (.iload_n 1, 1), (.iadd, 1)]) 16 [some (.inr (.inr x0)), some (.inl x1)] [.inl ((10 : Int32) + x1), .inr (.inr v3)] (by decide +kernel) rfl ?_
    refine s_ia (by decide +kernel) (fun v4 => ?_)
    refine s_run (b := [(.goto 4, 3)]) 21 [some (.inr (.inr x0)), some (.inl x1)] [.inl v4] (by decide +kernel) rfl ?_
    exact s_iret (by decide +kernel) rfl
set_option maxRecDepth 20000 in
theorem c_X12_byteAt {l : Launch} {G : Gv} {M : Mem} {x0 : Nat} {x1 : Int32} {z : Int32} (h : f_X12_byteAt M x0 x1 = some z) : MetS l G Y_X12_byteAt [.inr (.inr x0), .inl x1] M (some (.int z)) M :=
  met_of (ls0 := [some (.inr (.inr x0)), some (.inl x1)]) (by decide) rfl (lv_in (m := 0) rfl) (sl_le (Nat.le_of_ble_eq_true rfl)) (by rw [h]; rfl) (Or.inl ⟨rfl, rfl⟩) (S_X12_byteAt M x0 x1)
def f_X12_isDigit (M : Mem) (x0 : Int32) : Option (Int32) :=
  (if x0 < (48 : Int32) then
    some (0 : Int32)
  else
    (if (57 : Int32) < x0 then
      some (0 : Int32)
    else
      some (1 : Int32)))
set_option maxRecDepth 20000 in
theorem S_X12_isDigit {l : Launch} {G : Gv} {lim : Nat × Nat} (M : Mem) (x0 : Int32) : Sim l G Y_X12_isDigit lim (f_X12_isDigit M x0) (fun z => some (some (.int z), M)) 0 [some (.inl x0)] [] M := by
  unfold f_X12_isDigit
  refine s_run (b := [(.iload_n 0, 1), (.bipush 48, 2)]) 3 [some (.inl x0)] [.inl (48 : Int32), .inl x0] (by decide +kernel) rfl ?_
  refine s_ic_lt (tgt := 16) (off := 13) (by decide +kernel) (by decide) (fun h1 => ?_) (fun h1 => ?_)
  · skip
    refine s_run (b := [(.iconst 0, 1)]) 17 [some (.inl x0)] [.inl (0 : Int32)] (by decide +kernel) rfl ?_
    exact s_bret (Or.inl rfl) (by decide +kernel) rfl
  · skip
    refine s_run (b := [(.iload_n 0, 1), (.bipush 57, 2)]) 9 [some (.inl x0)] [.inl (57 : Int32), .inl x0] (by decide +kernel) rfl ?_
    refine s_ic_gt (tgt := 16) (off := 7) (by decide +kernel) (by decide) (fun h2 => ?_) (fun h2 => ?_)
    · skip
      refine s_run (b := [(.iconst 0, 1)]) 17 [some (.inl x0)] [.inl (0 : Int32)] (by decide +kernel) rfl ?_
      exact s_bret (Or.inl rfl) (by decide +kernel) rfl
    · skip
      refine s_run (b := [(.iconst 1, 1), (.goto 4, 3)]) 17 [some (.inl x0)] [.inl (1 : Int32)] (by decide +kernel) rfl ?_
      exact s_bret (Or.inr rfl) (by decide +kernel) rfl
set_option maxRecDepth 20000 in
theorem c_X12_isDigit {l : Launch} {G : Gv} {M : Mem} {x0 : Int32} {z : Int32} (h : f_X12_isDigit M x0 = some z) : MetS l G Y_X12_isDigit [.inl x0] M (some (.int z)) M :=
  met_of (ls0 := [some (.inl x0)]) (by decide) rfl (lv_in (m := 0) rfl) (sl_le (Nat.le_of_ble_eq_true rfl)) (by rw [h]; rfl) (Or.inl ⟨rfl, rfl⟩) (S_X12_isDigit M x0)
def f_X12_isLetter (M : Mem) (x0 : Int32) : Option (Int32) :=
  (if x0 < (97 : Int32) then
    some (0 : Int32)
  else
    (if (122 : Int32) < x0 then
      some (0 : Int32)
    else
      some (1 : Int32)))
set_option maxRecDepth 20000 in
theorem S_X12_isLetter {l : Launch} {G : Gv} {lim : Nat × Nat} (M : Mem) (x0 : Int32) : Sim l G Y_X12_isLetter lim (f_X12_isLetter M x0) (fun z => some (some (.int z), M)) 0 [some (.inl x0)] [] M := by
  unfold f_X12_isLetter
  refine s_run (b := [(.iload_n 0, 1), (.bipush 97, 2)]) 3 [some (.inl x0)] [.inl (97 : Int32), .inl x0] (by decide +kernel) rfl ?_
  refine s_ic_lt (tgt := 16) (off := 13) (by decide +kernel) (by decide) (fun h1 => ?_) (fun h1 => ?_)
  · skip
    refine s_run (b := [(.iconst 0, 1)]) 17 [some (.inl x0)] [.inl (0 : Int32)] (by decide +kernel) rfl ?_
    exact s_bret (Or.inl rfl) (by decide +kernel) rfl
  · skip
    refine s_run (b := [(.iload_n 0, 1), (.bipush 122, 2)]) 9 [some (.inl x0)] [.inl (122 : Int32), .inl x0] (by decide +kernel) rfl ?_
    refine s_ic_gt (tgt := 16) (off := 7) (by decide +kernel) (by decide) (fun h2 => ?_) (fun h2 => ?_)
    · skip
      refine s_run (b := [(.iconst 0, 1)]) 17 [some (.inl x0)] [.inl (0 : Int32)] (by decide +kernel) rfl ?_
      exact s_bret (Or.inl rfl) (by decide +kernel) rfl
    · skip
      refine s_run (b := [(.iconst 1, 1), (.goto 4, 3)]) 17 [some (.inl x0)] [.inl (1 : Int32)] (by decide +kernel) rfl ?_
      exact s_bret (Or.inr rfl) (by decide +kernel) rfl
set_option maxRecDepth 20000 in
theorem c_X12_isLetter {l : Launch} {G : Gv} {M : Mem} {x0 : Int32} {z : Int32} (h : f_X12_isLetter M x0 = some z) : MetS l G Y_X12_isLetter [.inl x0] M (some (.int z)) M :=
  met_of (ls0 := [some (.inl x0)]) (by decide) rfl (lv_in (m := 0) rfl) (sl_le (Nat.le_of_ble_eq_true rfl)) (by rw [h]; rfl) (Or.inl ⟨rfl, rfl⟩) (S_X12_isLetter M x0)
def f_X12_four (M : Mem) (x0 : Int32) (x1 : Int32) (x2 : Int32) (x3 : Int32) : Option (Int64) :=
  some (Int32.toInt64 ((((((x0 * (32 : Int32)) + x1) * (32 : Int32)) + x2) * (32 : Int32)) + x3))
set_option maxRecDepth 20000 in
theorem S_X12_four {l : Launch} {G : Gv} {lim : Nat × Nat} (M : Mem) (x0 : Int32) (x1 : Int32) (x2 : Int32) (x3 : Int32) : Sim l G Y_X12_four lim (f_X12_four M x0 x1 x2 x3) (fun z => some (some (.long z), M)) 0 [some (.inl x0), some (.inl x1), some (.inl x2), some (.inl x3)] [] M := by
  unfold f_X12_four
  refine s_run (b := [(.iload_n 0, 1), (.bipush 32, 2), (.imul, 1), (.iload_n 1, 1), (.iadd, 1), (.bipush 32, 2), (.imul, 1), (.iload_n 2, 1), (.iadd, 1), (.bipush 32, 2), (.imul, 1), (.iload_n 3, 1), (.iadd, 1), (.i2l, 1)]) 17 [some (.inl x0), some (.inl x1), some (.inl x2), some (.inl x3)] [.inr (.inl (Int32.toInt64 ((((((x0 * (32 : Int32)) + x1) * (32 : Int32)) + x2) * (32 : Int32)) + x3)))] (by decide +kernel) rfl ?_
  exact s_lret (by decide +kernel) rfl
set_option maxRecDepth 20000 in
theorem c_X12_four {l : Launch} {G : Gv} {M : Mem} {x0 : Int32} {x1 : Int32} {x2 : Int32} {x3 : Int32} {z : Int64} (h : f_X12_four M x0 x1 x2 x3 = some z) : MetS l G Y_X12_four [.inl x0, .inl x1, .inl x2, .inl x3] M (some (.long z)) M :=
  met_of (ls0 := [some (.inl x0), some (.inl x1), some (.inl x2), some (.inl x3)]) (by decide) rfl (lv_in (m := 0) rfl) (sl_le (Nat.le_of_ble_eq_true rfl)) (by rw [h]; rfl) (Or.inl ⟨rfl, rfl⟩) (S_X12_four M x0 x1 x2 x3)
def f_X12_eight (M : Mem) (x0 : Int32) (x1 : Int32) (x2 : Int32) (x3 : Int32) (x4 : Int32) (x5 : Int32) (x6 : Int32) (x7 : Int32) : Option (Int64) :=
  (f_X12_four M x0 x1 x2 x3).bind fun v1 =>
  (f_X12_four M x4 x5 x6 x7).bind fun v2 =>
  some ((v1 * (1048576 : Int64)) + v2)
set_option maxRecDepth 20000 in
theorem S_X12_eight {l : Launch} {G : Gv} {lim : Nat × Nat} (M : Mem) (x0 : Int32) (x1 : Int32) (x2 : Int32) (x3 : Int32) (x4 : Int32) (x5 : Int32) (x6 : Int32) (x7 : Int32) : Sim l G Y_X12_eight lim (f_X12_eight M x0 x1 x2 x3 x4 x5 x6 x7) (fun z => some (some (.long z), M)) 0 [some (.inl x0), some (.inl x1), some (.inl x2), some (.inl x3), some (.inl x4), some (.inl x5), some (.inl x6), some (.inl x7)] [] M := by
  unfold f_X12_eight
  refine s_run (b := [(.iload_n 0, 1), (.iload_n 1, 1), (.iload_n 2, 1), (.iload_n 3, 1)]) 4 [some (.inl x0), some (.inl x1), some (.inl x2), some (.inl x3), some (.inl x4), some (.inl x5), some (.inl x6), some (.inl x7)] [.inl x3, .inl x2, .inl x1, .inl x0] (by decide +kernel) rfl ?_
  refine s_cS (Z := Y_X12_four) (vs := [.inl x0, .inl x1, .inl x2, .inl x3]) (st := []) (rO := fun z => some (.inr (.inl z))) (mO := fun _ => M) zk_X12_four q1490 q1489 ⟨by decide, by decide⟩ ⟨rfl, rfl⟩ rfl rfl (Nat.le_of_ble_eq_true rfl) (by decide +kernel) (fun z hz => c_X12_four hz) (fun v1 => ?_)
  change Sim l G Y_X12_eight lim _ _ 7 [some (.inl x0), some (.inl x1), some (.inl x2), some (.inl x3), some (.inl x4), some (.inl x5), some (.inl x6), some (.inl x7)] [.inr (.inl v1)] M
  refine s_ldc2 q1492 (by decide +kernel) ?_
  change Sim l G Y_X12_eight lim _ _ 10 [some (.inl x0), some (.inl x1), some (.inl x2), some (.inl x3), some (.inl x4), some (.inl x5), some (.inl x6), some (.inl x7)] [.inr (.inl (1048576 : Int64)), .inr (.inl v1)] M
  refine s_run (b := [(.lmul, 1), (.iload 4, 2), (.iload 5, 2), (.iload 6, 2), (.iload 7, 2)]) 19 [some (.inl x0), some (.inl x1), some (.inl x2), some (.inl x3), some (.inl x4), some (.inl x5), some (.inl x6), some (.inl x7)] [.inl x7, .inl x6, .inl x5, .inl x4, .inr (.inl (v1 * (1048576 : Int64)))] (by decide +kernel) rfl ?_
  refine s_cS (Z := Y_X12_four) (vs := [.inl x4, .inl x5, .inl x6, .inl x7]) (st := [.inr (.inl (v1 * (1048576 : Int64)))]) (rO := fun z => some (.inr (.inl z))) (mO := fun _ => M) zk_X12_four q1490 q1489 ⟨by decide, by decide⟩ ⟨rfl, rfl⟩ rfl rfl (Nat.le_of_ble_eq_true rfl) (by decide +kernel) (fun z hz => c_X12_four hz) (fun v2 => ?_)
  change Sim l G Y_X12_eight lim _ _ 22 [some (.inl x0), some (.inl x1), some (.inl x2), some (.inl x3), some (.inl x4), some (.inl x5), some (.inl x6), some (.inl x7)] [.inr (.inl v2), .inr (.inl (v1 * (1048576 : Int64)))] M
  refine s_run (b := [(.ladd, 1)]) 23 [some (.inl x0), some (.inl x1), some (.inl x2), some (.inl x3), some (.inl x4), some (.inl x5), some (.inl x6), some (.inl x7)] [.inr (.inl ((v1 * (1048576 : Int64)) + v2))] (by decide +kernel) rfl ?_
  exact s_lret (by decide +kernel) rfl
set_option maxRecDepth 20000 in
theorem c_X12_eight {l : Launch} {G : Gv} {M : Mem} {x0 : Int32} {x1 : Int32} {x2 : Int32} {x3 : Int32} {x4 : Int32} {x5 : Int32} {x6 : Int32} {x7 : Int32} {z : Int64} (h : f_X12_eight M x0 x1 x2 x3 x4 x5 x6 x7 = some z) : MetS l G Y_X12_eight [.inl x0, .inl x1, .inl x2, .inl x3, .inl x4, .inl x5, .inl x6, .inl x7] M (some (.long z)) M :=
  met_of (ls0 := [some (.inl x0), some (.inl x1), some (.inl x2), some (.inl x3), some (.inl x4), some (.inl x5), some (.inl x6), some (.inl x7)]) (by decide) rfl (lv_in (m := 0) rfl) (sl_le (Nat.le_of_ble_eq_true rfl)) (by rw [h]; rfl) (Or.inl ⟨rfl, rfl⟩) (S_X12_eight M x0 x1 x2 x3 x4 x5 x6 x7)
def f_X12_wordOf (M : Mem) (x0 : Int64) : Option (Int32) :=
  (f_X12_eight M (0 : Int32) (0 : Int32) (0 : Int32) (16 : Int32) (12 : Int32) (1 : Int32) (9 : Int32) (14 : Int32)).bind fun v1 =>
  (if (lg_cmp x0 v1) = 0 then
    some (1 : Int32)
  else
    (f_X12_four M (19 : Int32) (15 : Int32) (6 : Int32) (20 : Int32)).bind fun v3 =>
    (if (lg_cmp x0 v3) = 0 then
      some (2 : Int32)
    else
      (f_X12_four M (4 : Int32) (5 : Int32) (1 : Int32) (6 : Int32)).bind fun v5 =>
      (if (lg_cmp x0 v5) = 0 then
        some (3 : Int32)
      else
        (f_X12_four M (6 : Int32) (1 : Int32) (9 : Int32) (18 : Int32)).bind fun v7 =>
        (if (lg_cmp x0 v7) = 0 then
          some (4 : Int32)
        else
          (f_X12_four M (14 : Int32) (5 : Int32) (1 : Int32) (18 : Int32)).bind fun v9 =>
          (if (lg_cmp x0 v9) = 0 then
            some (5 : Int32)
          else
            (f_X12_four M (3 : Int32) (1 : Int32) (12 : Int32) (12 : Int32)).bind fun v11 =>
            (if (lg_cmp x0 v11) = 0 then
              some (6 : Int32)
            else
              (f_X12_four M (0 : Int32) (5 : Int32) (1 : Int32) (18 : Int32)).bind fun v13 =>
              (if (lg_cmp x0 v13) = 0 then
                some (7 : Int32)
              else
                (f_X12_eight M (0 : Int32) (13 : Int32) (1 : Int32) (3 : Int32) (8 : Int32) (9 : Int32) (14 : Int32) (5 : Int32)).bind fun v15 =>
                (if (lg_cmp x0 v15) = 0 then
                  some (8 : Int32)
                else
                  (f_X12_four M (6 : Int32) (1 : Int32) (4 : Int32) (5 : Int32)).bind fun v17 =>
                  (if (lg_cmp x0 v17) = 0 then
                    some (9 : Int32)
                  else
                    (f_X12_four M (18 : Int32) (9 : Int32) (14 : Int32) (7 : Int32)).bind fun v19 =>
                    (if (lg_cmp x0 v19) = 0 then
                      some (10 : Int32)
                    else
                      (f_X12_four M (1 : Int32) (23 : Int32) (1 : Int32) (25 : Int32)).bind fun v21 =>
                      (if (lg_cmp x0 v21) = 0 then
                        some (11 : Int32)
                      else
                        (f_X12_four M (2 : Int32) (1 : Int32) (3 : Int32) (11 : Int32)).bind fun v23 =>
                        (if (lg_cmp x0 v23) = 0 then
                          some (12 : Int32)
                        else
                          (f_X12_four M (18 : Int32) (5 : Int32) (1 : Int32) (4 : Int32)).bind fun v25 =>
                          (if (lg_cmp x0 v25) = 0 then
                            some (13 : Int32)
                          else
                            (f_X12_eight M (0 : Int32) (0 : Int32) (19 : Int32) (9 : Int32) (12 : Int32) (5 : Int32) (14 : Int32) (20 : Int32)).bind fun v27 =>
                            (if (lg_cmp x0 v27) = 0 then
                              some (14 : Int32)
                            else
                              (f_X12_eight M (0 : Int32) (0 : Int32) (12 : Int32) (9 : Int32) (6 : Int32) (20 : Int32) (5 : Int32) (4 : Int32)).bind fun v29 =>
                              (if (lg_cmp x0 v29) = 0 then
                                some (15 : Int32)
                              else
                                some (99 : Int32))))))))))))))))
set_option maxRecDepth 20000 in
theorem S_X12_wordOf {l : Launch} {G : Gv} {lim : Nat × Nat} (M : Mem) (x0 : Int64) : Sim l G Y_X12_wordOf lim (f_X12_wordOf M x0) (fun z => some (some (.int z), M)) 0 [some (.inr (.inl x0)), none] [] M := by
  unfold f_X12_wordOf
  refine s_run (b := [(.lload_n 0, 1), (.iconst 0, 1), (.iconst 0, 1), (.iconst 0, 1), (.bipush 16, 2), (.bipush 12, 2), (.iconst 1, 1), (.bipush 9, 2), (.bipush 14, 2)]) 13 [some (.inr (.inl x0)), none] [.inl (14 : Int32), .inl (9 : Int32), .inl (1 : Int32), .inl (12 : Int32), .inl (16 : Int32), .inl (0 : Int32), .inl (0 : Int32), .inl (0 : Int32), .inr (.inl x0)] (by decide +kernel) rfl ?_
  refine s_cS (Z := Y_X12_eight) (vs := [.inl (0 : Int32), .inl (0 : Int32), .inl (0 : Int32), .inl (16 : Int32), .inl (12 : Int32), .inl (1 : Int32), .inl (9 : Int32), .inl (14 : Int32)]) (st := [.inr (.inl x0)]) (rO := fun z => some (.inr (.inl z))) (mO := fun _ => M) zk_X12_eight q1487 q1486 ⟨by decide, by decide⟩ ⟨rfl, rfl⟩ rfl rfl (Nat.le_of_ble_eq_true rfl) (by decide +kernel) (fun z hz => c_X12_eight hz) (fun v1 => ?_)
  change Sim l G Y_X12_wordOf lim _ _ 16 [some (.inr (.inl x0)), none] [.inr (.inl v1), .inr (.inl x0)] M
  refine s_run (b := [(.lcmp, 1)]) 17 [some (.inr (.inl x0)), none] [.inl (lg_cmp x0 v1)] (by decide +kernel) rfl ?_
  refine s_if_ne (tgt := 22) (off := 5) (by decide +kernel) (by decide) (fun h2 => ?_) (fun h2 => ?_)
  · skip
    refine s_run (b := [(.iconst 1, 1)]) 21 [some (.inr (.inl x0)), none] [.inl (1 : Int32)] (by decide +kernel) rfl ?_
    exact s_iret (by decide +kernel) rfl
  · skip
    refine s_run (b := [(.lload_n 0, 1), (.bipush 19, 2), (.bipush 15, 2), (.bipush 6, 2), (.bipush 20, 2)]) 31 [some (.inr (.inl x0)), none] [.inl (20 : Int32), .inl (6 : Int32), .inl (15 : Int32), .inl (19 : Int32), .inr (.inl x0)] (by decide +kernel) rfl ?_
    refine s_cS (Z := Y_X12_four) (vs := [.inl (19 : Int32), .inl (15 : Int32), .inl (6 : Int32), .inl (20 : Int32)]) (st := [.inr (.inl x0)]) (rO := fun z => some (.inr (.inl z))) (mO := fun _ => M) zk_X12_four q1490 q1489 ⟨by decide, by decide⟩ ⟨rfl, rfl⟩ rfl rfl (Nat.le_of_ble_eq_true rfl) (by decide +kernel) (fun z hz => c_X12_four hz) (fun v3 => ?_)
    change Sim l G Y_X12_wordOf lim _ _ 34 [some (.inr (.inl x0)), none] [.inr (.inl v3), .inr (.inl x0)] M
    refine s_run (b := [(.lcmp, 1)]) 35 [some (.inr (.inl x0)), none] [.inl (lg_cmp x0 v3)] (by decide +kernel) rfl ?_
    refine s_if_ne (tgt := 40) (off := 5) (by decide +kernel) (by decide) (fun h4 => ?_) (fun h4 => ?_)
    · skip
      refine s_run (b := [(.iconst 2, 1)]) 39 [some (.inr (.inl x0)), none] [.inl (2 : Int32)] (by decide +kernel) rfl ?_
      exact s_iret (by decide +kernel) rfl
    · skip
      refine s_run (b := [(.lload_n 0, 1), (.iconst 4, 1), (.iconst 5, 1), (.iconst 1, 1), (.bipush 6, 2)]) 46 [some (.inr (.inl x0)), none] [.inl (6 : Int32), .inl (1 : Int32), .inl (5 : Int32), .inl (4 : Int32), .inr (.inl x0)] (by decide +kernel) rfl ?_
      refine s_cS (Z := Y_X12_four) (vs := [.inl (4 : Int32), .inl (5 : Int32), .inl (1 : Int32), .inl (6 : Int32)]) (st := [.inr (.inl x0)]) (rO := fun z => some (.inr (.inl z))) (mO := fun _ => M) zk_X12_four q1490 q1489 ⟨by decide, by decide⟩ ⟨rfl, rfl⟩ rfl rfl (Nat.le_of_ble_eq_true rfl) (by decide +kernel) (fun z hz => c_X12_four hz) (fun v5 => ?_)
      change Sim l G Y_X12_wordOf lim _ _ 49 [some (.inr (.inl x0)), none] [.inr (.inl v5), .inr (.inl x0)] M
      refine s_run (b := [(.lcmp, 1)]) 50 [some (.inr (.inl x0)), none] [.inl (lg_cmp x0 v5)] (by decide +kernel) rfl ?_
      refine s_if_ne (tgt := 55) (off := 5) (by decide +kernel) (by decide) (fun h6 => ?_) (fun h6 => ?_)
      · skip
        refine s_run (b := [(.iconst 3, 1)]) 54 [some (.inr (.inl x0)), none] [.inl (3 : Int32)] (by decide +kernel) rfl ?_
        exact s_iret (by decide +kernel) rfl
      · skip
        refine s_run (b := [(.lload_n 0, 1), (.bipush 6, 2), (.iconst 1, 1), (.bipush 9, 2), (.bipush 18, 2)]) 63 [some (.inr (.inl x0)), none] [.inl (18 : Int32), .inl (9 : Int32), .inl (1 : Int32), .inl (6 : Int32), .inr (.inl x0)] (by decide +kernel) rfl ?_
        refine s_cS (Z := Y_X12_four) (vs := [.inl (6 : Int32), .inl (1 : Int32), .inl (9 : Int32), .inl (18 : Int32)]) (st := [.inr (.inl x0)]) (rO := fun z => some (.inr (.inl z))) (mO := fun _ => M) zk_X12_four q1490 q1489 ⟨by decide, by decide⟩ ⟨rfl, rfl⟩ rfl rfl (Nat.le_of_ble_eq_true rfl) (by decide +kernel) (fun z hz => c_X12_four hz) (fun v7 => ?_)
        change Sim l G Y_X12_wordOf lim _ _ 66 [some (.inr (.inl x0)), none] [.inr (.inl v7), .inr (.inl x0)] M
        refine s_run (b := [(.lcmp, 1)]) 67 [some (.inr (.inl x0)), none] [.inl (lg_cmp x0 v7)] (by decide +kernel) rfl ?_
        refine s_if_ne (tgt := 72) (off := 5) (by decide +kernel) (by decide) (fun h8 => ?_) (fun h8 => ?_)
        · skip
          refine s_run (b := [(.iconst 4, 1)]) 71 [some (.inr (.inl x0)), none] [.inl (4 : Int32)] (by decide +kernel) rfl ?_
          exact s_iret (by decide +kernel) rfl
        · skip
          refine s_run (b := [(.lload_n 0, 1), (.bipush 14, 2), (.iconst 5, 1), (.iconst 1, 1), (.bipush 18, 2)]) 79 [some (.inr (.inl x0)), none] [.inl (18 : Int32), .inl (1 : Int32), .inl (5 : Int32), .inl (14 : Int32), .inr (.inl x0)] (by decide +kernel) rfl ?_
          refine s_cS (Z := Y_X12_four) (vs := [.inl (14 : Int32), .inl (5 : Int32), .inl (1 : Int32), .inl (18 : Int32)]) (st := [.inr (.inl x0)]) (rO := fun z => some (.inr (.inl z))) (mO := fun _ => M) zk_X12_four q1490 q1489 ⟨by decide, by decide⟩ ⟨rfl, rfl⟩ rfl rfl (Nat.le_of_ble_eq_true rfl) (by decide +kernel) (fun z hz => c_X12_four hz) (fun v9 => ?_)
          change Sim l G Y_X12_wordOf lim _ _ 82 [some (.inr (.inl x0)), none] [.inr (.inl v9), .inr (.inl x0)] M
          refine s_run (b := [(.lcmp, 1)]) 83 [some (.inr (.inl x0)), none] [.inl (lg_cmp x0 v9)] (by decide +kernel) rfl ?_
          refine s_if_ne (tgt := 88) (off := 5) (by decide +kernel) (by decide) (fun h10 => ?_) (fun h10 => ?_)
          · skip
            refine s_run (b := [(.iconst 5, 1)]) 87 [some (.inr (.inl x0)), none] [.inl (5 : Int32)] (by decide +kernel) rfl ?_
            exact s_iret (by decide +kernel) rfl
          · skip
            refine s_run (b := [(.lload_n 0, 1), (.iconst 3, 1), (.iconst 1, 1), (.bipush 12, 2), (.bipush 12, 2)]) 95 [some (.inr (.inl x0)), none] [.inl (12 : Int32), .inl (12 : Int32), .inl (1 : Int32), .inl (3 : Int32), .inr (.inl x0)] (by decide +kernel) rfl ?_
            refine s_cS (Z := Y_X12_four) (vs := [.inl (3 : Int32), .inl (1 : Int32), .inl (12 : Int32), .inl (12 : Int32)]) (st := [.inr (.inl x0)]) (rO := fun z => some (.inr (.inl z))) (mO := fun _ => M) zk_X12_four q1490 q1489 ⟨by decide, by decide⟩ ⟨rfl, rfl⟩ rfl rfl (Nat.le_of_ble_eq_true rfl) (by decide +kernel) (fun z hz => c_X12_four hz) (fun v11 => ?_)
            change Sim l G Y_X12_wordOf lim _ _ 98 [some (.inr (.inl x0)), none] [.inr (.inl v11), .inr (.inl x0)] M
            refine s_run (b := [(.lcmp, 1)]) 99 [some (.inr (.inl x0)), none] [.inl (lg_cmp x0 v11)] (by decide +kernel) rfl ?_
            refine s_if_ne (tgt := 105) (off := 6) (by decide +kernel) (by decide) (fun h12 => ?_) (fun h12 => ?_)
            · skip
              refine s_run (b := [(.bipush 6, 2)]) 104 [some (.inr (.inl x0)), none] [.inl (6 : Int32)] (by decide +kernel) rfl ?_
              exact s_iret (by decide +kernel) rfl
            · skip
              refine s_run (b := [(.lload_n 0, 1), (.iconst 0, 1), (.iconst 5, 1), (.iconst 1, 1), (.bipush 18, 2)]) 111 [some (.inr (.inl x0)), none] [.inl (18 : Int32), .inl (1 : Int32), .inl (5 : Int32), .inl (0 : Int32), .inr (.inl x0)] (by decide +kernel) rfl ?_
              refine s_cS (Z := Y_X12_four) (vs := [.inl (0 : Int32), .inl (5 : Int32), .inl (1 : Int32), .inl (18 : Int32)]) (st := [.inr (.inl x0)]) (rO := fun z => some (.inr (.inl z))) (mO := fun _ => M) zk_X12_four q1490 q1489 ⟨by decide, by decide⟩ ⟨rfl, rfl⟩ rfl rfl (Nat.le_of_ble_eq_true rfl) (by decide +kernel) (fun z hz => c_X12_four hz) (fun v13 => ?_)
              change Sim l G Y_X12_wordOf lim _ _ 114 [some (.inr (.inl x0)), none] [.inr (.inl v13), .inr (.inl x0)] M
              refine s_run (b := [(.lcmp, 1)]) 115 [some (.inr (.inl x0)), none] [.inl (lg_cmp x0 v13)] (by decide +kernel) rfl ?_
              refine s_if_ne (tgt := 121) (off := 6) (by decide +kernel) (by decide) (fun h14 => ?_) (fun h14 => ?_)
              · skip
                refine s_run (b := [(.bipush 7, 2)]) 120 [some (.inr (.inl x0)), none] [.inl (7 : Int32)] (by decide +kernel) rfl ?_
                exact s_iret (by decide +kernel) rfl
              · skip
                refine s_run (b := [(.lload_n 0, 1), (.iconst 0, 1), (.bipush 13, 2), (.iconst 1, 1), (.iconst 3, 1), (.bipush 8, 2), (.bipush 9, 2), (.bipush 14, 2), (.iconst 5, 1)]) 134 [some (.inr (.inl x0)), none] [.inl (5 : Int32), .inl (14 : Int32), .inl (9 : Int32), .inl (8 : Int32), .inl (3 : Int32), .inl (1 : Int32), .inl (13 : Int32), .inl (0 : Int32), .inr (.inl x0)] (by decide +kernel) rfl ?_
                refine s_cS (Z := Y_X12_eight) (vs := [.inl (0 : Int32), .inl (13 : Int32), .inl (1 : Int32), .inl (3 : Int32), .inl (8 : Int32), .inl (9 : Int32), .inl (14 : Int32), .inl (5 : Int32)]) (st := [.inr (.inl x0)]) (rO := fun z => some (.inr (.inl z))) (mO := fun _ => M) zk_X12_eight q1487 q1486 ⟨by decide, by decide⟩ ⟨rfl, rfl⟩ rfl rfl (Nat.le_of_ble_eq_true rfl) (by decide +kernel) (fun z hz => c_X12_eight hz) (fun v15 => ?_)
                change Sim l G Y_X12_wordOf lim _ _ 137 [some (.inr (.inl x0)), none] [.inr (.inl v15), .inr (.inl x0)] M
                refine s_run (b := [(.lcmp, 1)]) 138 [some (.inr (.inl x0)), none] [.inl (lg_cmp x0 v15)] (by decide +kernel) rfl ?_
                refine s_if_ne (tgt := 144) (off := 6) (by decide +kernel) (by decide) (fun h16 => ?_) (fun h16 => ?_)
                · skip
                  refine s_run (b := [(.bipush 8, 2)]) 143 [some (.inr (.inl x0)), none] [.inl (8 : Int32)] (by decide +kernel) rfl ?_
                  exact s_iret (by decide +kernel) rfl
                · skip
                  refine s_run (b := [(.lload_n 0, 1), (.bipush 6, 2), (.iconst 1, 1), (.iconst 4, 1), (.iconst 5, 1)]) 150 [some (.inr (.inl x0)), none] [.inl (5 : Int32), .inl (4 : Int32), .inl (1 : Int32), .inl (6 : Int32), .inr (.inl x0)] (by decide +kernel) rfl ?_
                  refine s_cS (Z := Y_X12_four) (vs := [.inl (6 : Int32), .inl (1 : Int32), .inl (4 : Int32), .inl (5 : Int32)]) (st := [.inr (.inl x0)]) (rO := fun z => some (.inr (.inl z))) (mO := fun _ => M) zk_X12_four q1490 q1489 ⟨by decide, by decide⟩ ⟨rfl, rfl⟩ rfl rfl (Nat.le_of_ble_eq_true rfl) (by decide +kernel) (fun z hz => c_X12_four hz) (fun v17 => ?_)
                  change Sim l G Y_X12_wordOf lim _ _ 153 [some (.inr (.inl x0)), none] [.inr (.inl v17), .inr (.inl x0)] M
                  refine s_run (b := [(.lcmp, 1)]) 154 [some (.inr (.inl x0)), none] [.inl (lg_cmp x0 v17)] (by decide +kernel) rfl ?_
                  refine s_if_ne (tgt := 160) (off := 6) (by decide +kernel) (by decide) (fun h18 => ?_) (fun h18 => ?_)
                  · skip
                    refine s_run (b := [(.bipush 9, 2)]) 159 [some (.inr (.inl x0)), none] [.inl (9 : Int32)] (by decide +kernel) rfl ?_
                    exact s_iret (by decide +kernel) rfl
                  · skip
                    refine s_run (b := [(.lload_n 0, 1), (.bipush 18, 2), (.bipush 9, 2), (.bipush 14, 2), (.bipush 7, 2)]) 169 [some (.inr (.inl x0)), none] [.inl (7 : Int32), .inl (14 : Int32), .inl (9 : Int32), .inl (18 : Int32), .inr (.inl x0)] (by decide +kernel) rfl ?_
                    refine s_cS (Z := Y_X12_four) (vs := [.inl (18 : Int32), .inl (9 : Int32), .inl (14 : Int32), .inl (7 : Int32)]) (st := [.inr (.inl x0)]) (rO := fun z => some (.inr (.inl z))) (mO := fun _ => M) zk_X12_four q1490 q1489 ⟨by decide, by decide⟩ ⟨rfl, rfl⟩ rfl rfl (Nat.le_of_ble_eq_true rfl) (by decide +kernel) (fun z hz => c_X12_four hz) (fun v19 => ?_)
                    change Sim l G Y_X12_wordOf lim _ _ 172 [some (.inr (.inl x0)), none] [.inr (.inl v19), .inr (.inl x0)] M
                    refine s_run (b := [(.lcmp, 1)]) 173 [some (.inr (.inl x0)), none] [.inl (lg_cmp x0 v19)] (by decide +kernel) rfl ?_
                    refine s_if_ne (tgt := 179) (off := 6) (by decide +kernel) (by decide) (fun h20 => ?_) (fun h20 => ?_)
                    · skip
                      refine s_run (b := [(.bipush 10, 2)]) 178 [some (.inr (.inl x0)), none] [.inl (10 : Int32)] (by decide +kernel) rfl ?_
                      exact s_iret (by decide +kernel) rfl
                    · skip
                      refine s_run (b := [(.lload_n 0, 1), (.iconst 1, 1), (.bipush 23, 2), (.iconst 1, 1), (.bipush 25, 2)]) 186 [some (.inr (.inl x0)), none] [.inl (25 : Int32), .inl (1 : Int32), .inl (23 : Int32), .inl (1 : Int32), .inr (.inl x0)] (by decide +kernel) rfl ?_
                      refine s_cS (Z := Y_X12_four) (vs := [.inl (1 : Int32), .inl (23 : Int32), .inl (1 : Int32), .inl (25 : Int32)]) (st := [.inr (.inl x0)]) (rO := fun z => some (.inr (.inl z))) (mO := fun _ => M) zk_X12_four q1490 q1489 ⟨by decide, by decide⟩ ⟨rfl, rfl⟩ rfl rfl (Nat.le_of_ble_eq_true rfl) (by decide +kernel) (fun z hz => c_X12_four hz) (fun v21 => ?_)
                      change Sim l G Y_X12_wordOf lim _ _ 189 [some (.inr (.inl x0)), none] [.inr (.inl v21), .inr (.inl x0)] M
                      refine s_run (b := [(.lcmp, 1)]) 190 [some (.inr (.inl x0)), none] [.inl (lg_cmp x0 v21)] (by decide +kernel) rfl ?_
                      refine s_if_ne (tgt := 196) (off := 6) (by decide +kernel) (by decide) (fun h22 => ?_) (fun h22 => ?_)
                      · skip
                        refine s_run (b := [(.bipush 11, 2)]) 195 [some (.inr (.inl x0)), none] [.inl (11 : Int32)] (by decide +kernel) rfl ?_
                        exact s_iret (by decide +kernel) rfl
                      · skip
                        refine s_run (b := [(.lload_n 0, 1), (.iconst 2, 1), (.iconst 1, 1), (.iconst 3, 1), (.bipush 11, 2)]) 202 [some (.inr (.inl x0)), none] [.inl (11 : Int32), .inl (3 : Int32), .inl (1 : Int32), .inl (2 : Int32), .inr (.inl x0)] (by decide +kernel) rfl ?_
                        refine s_cS (Z := Y_X12_four) (vs := [.inl (2 : Int32), .inl (1 : Int32), .inl (3 : Int32), .inl (11 : Int32)]) (st := [.inr (.inl x0)]) (rO := fun z => some (.inr (.inl z))) (mO := fun _ => M) zk_X12_four q1490 q1489 ⟨by decide, by decide⟩ ⟨rfl, rfl⟩ rfl rfl (Nat.le_of_ble_eq_true rfl) (by decide +kernel) (fun z hz => c_X12_four hz) (fun v23 => ?_)
                        change Sim l G Y_X12_wordOf lim _ _ 205 [some (.inr (.inl x0)), none] [.inr (.inl v23), .inr (.inl x0)] M
                        refine s_run (b := [(.lcmp, 1)]) 206 [some (.inr (.inl x0)), none] [.inl (lg_cmp x0 v23)] (by decide +kernel) rfl ?_
                        refine s_if_ne (tgt := 212) (off := 6) (by decide +kernel) (by decide) (fun h24 => ?_) (fun h24 => ?_)
                        · skip
                          refine s_run (b := [(.bipush 12, 2)]) 211 [some (.inr (.inl x0)), none] [.inl (12 : Int32)] (by decide +kernel) rfl ?_
                          exact s_iret (by decide +kernel) rfl
                        · skip
                          refine s_run (b := [(.lload_n 0, 1), (.bipush 18, 2), (.iconst 5, 1), (.iconst 1, 1), (.iconst 4, 1)]) 218 [some (.inr (.inl x0)), none] [.inl (4 : Int32), .inl (1 : Int32), .inl (5 : Int32), .inl (18 : Int32), .inr (.inl x0)] (by decide +kernel) rfl ?_
                          refine s_cS (Z := Y_X12_four) (vs := [.inl (18 : Int32), .inl (5 : Int32), .inl (1 : Int32), .inl (4 : Int32)]) (st := [.inr (.inl x0)]) (rO := fun z => some (.inr (.inl z))) (mO := fun _ => M) zk_X12_four q1490 q1489 ⟨by decide, by decide⟩ ⟨rfl, rfl⟩ rfl rfl (Nat.le_of_ble_eq_true rfl) (by decide +kernel) (fun z hz => c_X12_four hz) (fun v25 => ?_)
                          change Sim l G Y_X12_wordOf lim _ _ 221 [some (.inr (.inl x0)), none] [.inr (.inl v25), .inr (.inl x0)] M
                          refine s_run (b := [(.lcmp, 1)]) 222 [some (.inr (.inl x0)), none] [.inl (lg_cmp x0 v25)] (by decide +kernel) rfl ?_
                          refine s_if_ne (tgt := 228) (off := 6) (by decide +kernel) (by decide) (fun h26 => ?_) (fun h26 => ?_)
                          · skip
                            refine s_run (b := [(.bipush 13, 2)]) 227 [some (.inr (.inl x0)), none] [.inl (13 : Int32)] (by decide +kernel) rfl ?_
                            exact s_iret (by decide +kernel) rfl
                          · skip
                            refine s_run (b := [(.lload_n 0, 1), (.iconst 0, 1), (.iconst 0, 1), (.bipush 19, 2), (.bipush 9, 2), (.bipush 12, 2), (.iconst 5, 1), (.bipush 14, 2), (.bipush 20, 2)]) 242 [some (.inr (.inl x0)), none] [.inl (20 : Int32), .inl (14 : Int32), .inl (5 : Int32), .inl (12 : Int32), .inl (9 : Int32), .inl (19 : Int32), .inl (0 : Int32), .inl (0 : Int32), .inr (.inl x0)] (by decide +kernel) rfl ?_
                            refine s_cS (Z := Y_X12_eight) (vs := [.inl (0 : Int32), .inl (0 : Int32), .inl (19 : Int32), .inl (9 : Int32), .inl (12 : Int32), .inl (5 : Int32), .inl (14 : Int32), .inl (20 : Int32)]) (st := [.inr (.inl x0)]) (rO := fun z => some (.inr (.inl z))) (mO := fun _ => M) zk_X12_eight q1487 q1486 ⟨by decide, by decide⟩ ⟨rfl, rfl⟩ rfl rfl (Nat.le_of_ble_eq_true rfl) (by decide +kernel) (fun z hz => c_X12_eight hz) (fun v27 => ?_)
                            change Sim l G Y_X12_wordOf lim _ _ 245 [some (.inr (.inl x0)), none] [.inr (.inl v27), .inr (.inl x0)] M
                            refine s_run (b := [(.lcmp, 1)]) 246 [some (.inr (.inl x0)), none] [.inl (lg_cmp x0 v27)] (by decide +kernel) rfl ?_
                            refine s_if_ne (tgt := 252) (off := 6) (by decide +kernel) (by decide) (fun h28 => ?_) (fun h28 => ?_)
                            · skip
                              refine s_run (b := [(.bipush 14, 2)]) 251 [some (.inr (.inl x0)), none] [.inl (14 : Int32)] (by decide +kernel) rfl ?_
                              exact s_iret (by decide +kernel) rfl
                            · skip
                              refine s_run (b := [(.lload_n 0, 1), (.iconst 0, 1), (.iconst 0, 1), (.bipush 12, 2), (.bipush 9, 2), (.bipush 6, 2), (.bipush 20, 2), (.iconst 5, 1), (.iconst 4, 1)]) 265 [some (.inr (.inl x0)), none] [.inl (4 : Int32), .inl (5 : Int32), .inl (20 : Int32), .inl (6 : Int32), .inl (9 : Int32), .inl (12 : Int32), .inl (0 : Int32), .inl (0 : Int32), .inr (.inl x0)] (by decide +kernel) rfl ?_
                              refine s_cS (Z := Y_X12_eight) (vs := [.inl (0 : Int32), .inl (0 : Int32), .inl (12 : Int32), .inl (9 : Int32), .inl (6 : Int32), .inl (20 : Int32), .inl (5 : Int32), .inl (4 : Int32)]) (st := [.inr (.inl x0)]) (rO := fun z => some (.inr (.inl z))) (mO := fun _ => M) zk_X12_eight q1487 q1486 ⟨by decide, by decide⟩ ⟨rfl, rfl⟩ rfl rfl (Nat.le_of_ble_eq_true rfl) (by decide +kernel) (fun z hz => c_X12_eight hz) (fun v29 => ?_)
                              change Sim l G Y_X12_wordOf lim _ _ 268 [some (.inr (.inl x0)), none] [.inr (.inl v29), .inr (.inl x0)] M
                              refine s_run (b := [(.lcmp, 1)]) 269 [some (.inr (.inl x0)), none] [.inl (lg_cmp x0 v29)] (by decide +kernel) rfl ?_
                              refine s_if_ne (tgt := 277) (off := 8) (by decide +kernel) (by decide) (fun h30 => ?_) (fun h30 => ?_)
                              · skip
                                refine s_run (b := [(.bipush 15, 2), (.goto 5, 3)]) 279 [some (.inr (.inl x0)), none] [.inl (15 : Int32)] (by decide +kernel) rfl ?_
                                exact s_iret (by decide +kernel) rfl
                              · skip
                                refine s_run (b := [(.bipush 99, 2)]) 279 [some (.inr (.inl x0)), none] [.inl (99 : Int32)] (by decide +kernel) rfl ?_
                                exact s_iret (by decide +kernel) rfl
set_option maxRecDepth 20000 in
theorem c_X12_wordOf {l : Launch} {G : Gv} {M : Mem} {x0 : Int64} {z : Int32} (h : f_X12_wordOf M x0 = some z) : MetS l G Y_X12_wordOf [.inr (.inl x0)] M (some (.int z)) M :=
  met_of (ls0 := [some (.inr (.inl x0)), none]) (by decide) rfl (lv_in (m := 0) rfl) (sl_le (Nat.le_of_ble_eq_true rfl)) (by rw [h]; rfl) (Or.inl ⟨rfl, rfl⟩) (S_X12_wordOf M x0)
