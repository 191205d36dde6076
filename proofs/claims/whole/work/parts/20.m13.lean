def f_X12_given_J96 (M : Mem) (x0 : Nat) (x2 : Int32) (x3 : Int32) (x4 : Int32) (x5 : Int32) (x6 : Int32) (y0 : Int32) : Option ((Int32 × Int32) ⊕ ((Int32))) :=
  (if y0 = 0 then
    some (.inl (x4, (x6 + Int32.ofInt (-1))))
  else
    (ob M 12 x0).bind fun _ => (f_X12_ofCall M x0 x5 (1 : Int32)).bind fun v2 =>
    (gR M 12 x0 41).bind fun v3 =>
    (aI M 0 v3 ((((256 : Int32) * x5) + (256 : Int32)) + (x3 ||| ((1 : Int32) <<< (x6 &&& 31))))).bind fun v4 =>
    (gR M 12 x0 41).bind fun v5 =>
    (aI M 0 v5 (((256 : Int32) * x5) + x3)).bind fun v6 =>
    (if (v2 + v4) = v6 then
      some (.inl (x6, (x6 + Int32.ofInt (-1))))
    else
      some (.inl (x4, (x6 + Int32.ofInt (-1))))))
set_option maxRecDepth 20000 in
theorem J_X12_given_96 {l : Launch} {G : Gv} {lim : Nat × Nat} (M : Mem) (x0 : Nat) (x2 : Int32) (x3 : Int32) (x4 : Int32) (x5 : Int32) (x6 : Int32) (y0 : Int32) (K : (Int32 × Int32) ⊕ ((Int32)) → Option (Option Value × Mem)) (kk1 : ∀ (s4 : Int32) (s6 : Int32), SimR l G Y_X12_given lim (K (.inl (s4, s6))) 66 [some (.inr (.inr x0)), none, some (.inl x2), some (.inl x3), some (.inl s4), some (.inl x5), some (.inl s6), none] [] M) (kk2_0 : ∀ (s4 : Int32), SimR l G Y_X12_given lim (K (.inr s4)) 164 [some (.inr (.inr x0)), none, some (.inl x2), some (.inl x3), some (.inl s4), some (.inl x5), none, none] [] M) : Sim l G Y_X12_given lim (f_X12_given_J96 M x0 x2 x3 x4 x5 x6 y0) K 96 [some (.inr (.inr x0)), none, some (.inl x2), some (.inl x3), some (.inl x4), some (.inl x5), some (.inl x6), none] [.inl y0] M := by
  unfold f_X12_given_J96
  refine s_run (b := [(.istore 7, 2), (.iload 7, 2)]) 100 [some (.inr (.inr x0)), none, some (.inl x2), some (.inl x3), some (.inl x4), some (.inl x5), some (.inl x6), some (.inl y0)] [.inl y0] (by decide +kernel) rfl ?_
  refine s_if_eq (tgt := 154) (off := 54) (by decide +kernel) (by decide) (fun h1 => ?_) (fun h1 => ?_)
  · skip
    refine s_run (b := [(.iload 4, 2), (.istore 4, 2), (.iinc 6 (-1), 3), (.goto (-95), 3)]) 66 [some (.inr (.inr x0)), none, some (.inl x2), some (.inl x3), some (.inl x4), some (.inl x5), some (.inl (x6 + Int32.ofInt (-1))), some (.inl y0)] [] (by decide +kernel) rfl ?_
    exact s_lsub (ls' := [some (.inr (.inr x0)), none, some (.inl x2), some (.inl x3), some (.inl x4), some (.inl x5), some (.inl (x6 + Int32.ofInt (-1))), none]) ⟨rfl, ⟨rfl, ⟨rfl, ⟨rfl, ⟨rfl, ⟨rfl, trivial⟩⟩⟩⟩⟩⟩ (kk1 x4 (x6 + Int32.ofInt (-1)))
  · skip
    refine s_run (b := [(.aload_n 0, 1), (.iload 5, 2), (.iconst 1, 1)]) 107 [some (.inr (.inr x0)), none, some (.inl x2), some (.inl x3), some (.inl x4), some (.inl x5), some (.inl x6), some (.inl y0)] [.inl (1 : Int32), .inl x5, .inr (.inr x0)] (by decide +kernel) rfl ?_
    refine s_cV (Z := Y_X12_ofCall) (c := 12) (vs := [.inl x5, .inl (1 : Int32)]) (st := []) (rO := fun z => some (.inl z)) (mO := fun _ => M) zk_X12_ofCall zi_X12_ofCall q1566 rfl ⟨by decide, by decide⟩ ⟨rfl, rfl⟩ rfl rfl (Nat.le_of_ble_eq_true rfl) (by decide +kernel) (fun z hz => c_X12_ofCall hz) (fun v2 => ?_)
    change Sim l G Y_X12_given lim _ _ 110 [some (.inr (.inr x0)), none, some (.inl x2), some (.inl x3), some (.inl x4), some (.inl x5), some (.inl x6), some (.inl y0)] [.inl v2] M
    refine s_run (b := [(.aload_n 0, 1)]) 111 [some (.inr (.inr x0)), none, some (.inl x2), some (.inl x3), some (.inl x4), some (.inl x5), some (.inl x6), some (.inl y0)] [.inr (.inr x0), .inl v2] (by decide +kernel) rfl ?_
    refine s_gR fl_12_48 rfl (by decide +kernel) (fun v3 => ?_)
    refine s_run (b := [(.sipush 256, 3), (.iload 5, 2), (.imul, 1), (.sipush 256, 3), (.iadd, 1), (.iload_n 3, 1), (.iconst 1, 1), (.iload 6, 2), (.ishl, 1), (.ior, 1), (.iadd, 1)]) 131 [some (.inr (.inr x0)), none, some (.inl x2), some (.inl x3), some (.inl x4), some (.inl x5), some (.inl x6), some (.inl y0)] [.inl ((((256 : Int32) * x5) + (256 : Int32)) + (x3 ||| ((1 : Int32) <<< (x6 &&& 31)))), .inr (.inr v3), .inl v2] (by decide +kernel) rfl ?_
    refine s_ia (by decide +kernel) (fun v4 => ?_)
    refine s_run (b := [(.iadd, 1), (.aload_n 0, 1)]) 134 [some (.inr (.inr x0)), none, some (.inl x2), some (.inl x3), some (.inl x4), some (.inl x5), some (.inl x6), some (.inl y0)] [.inr (.inr x0), .inl (v2 + v4)] (by decide +kernel) rfl ?_
    refine s_gR fl_12_48 rfl (by decide +kernel) (fun v5 => ?_)
    refine s_run (b := [(.sipush 256, 3), (.iload 5, 2), (.imul, 1), (.iload_n 3, 1), (.iadd, 1)]) 145 [some (.inr (.inr x0)), none, some (.inl x2), some (.inl x3), some (.inl x4), some (.inl x5), some (.inl x6), some (.inl y0)] [.inl (((256 : Int32) * x5) + x3), .inr (.inr v5), .inl (v2 + v4)] (by decide +kernel) rfl ?_
    refine s_ia (by decide +kernel) (fun v6 => ?_)
    refine s_ic_ne (tgt := 154) (off := 8) (by decide +kernel) (by decide) (fun h7 => ?_) (fun h7 => ?_)
    · skip
      refine s_run (b := [(.iload 6, 2), (.goto 5, 3), (.istore 4, 2), (.iinc 6 (-1), 3), (.goto (-95), 3)]) 66 [some (.inr (.inr x0)), none, some (.inl x2), some (.inl x3), some (.inl x6), some (.inl x5), some (.inl (x6 + Int32.ofInt (-1))), some (.inl y0)] [] (by decide +kernel) rfl ?_
      exact s_lsub (ls' := [some (.inr (.inr x0)), none, some (.inl x2), some (.inl x3), some (.inl x6), some (.inl x5), some (.inl (x6 + Int32.ofInt (-1))), none]) ⟨rfl, ⟨rfl, ⟨rfl, ⟨rfl, ⟨rfl, ⟨rfl, trivial⟩⟩⟩⟩⟩⟩ (kk1 x6 (x6 + Int32.ofInt (-1)))
    · skip
      refine s_run (b := [(.iload 4, 2), (.istore 4, 2), (.iinc 6 (-1), 3), (.goto (-95), 3)]) 66 [some (.inr (.inr x0)), none, some (.inl x2), some (.inl x3), some (.inl x4), some (.inl x5), some (.inl (x6 + Int32.ofInt (-1))), some (.inl y0)] [] (by decide +kernel) rfl ?_
      exact s_lsub (ls' := [some (.inr (.inr x0)), none, some (.inl x2), some (.inl x3), some (.inl x4), some (.inl x5), some (.inl (x6 + Int32.ofInt (-1))), none]) ⟨rfl, ⟨rfl, ⟨rfl, ⟨rfl, ⟨rfl, ⟨rfl, trivial⟩⟩⟩⟩⟩⟩ (kk1 x4 (x6 + Int32.ofInt (-1)))
def f_X12_given_B66 (M : Mem) (x0 : Nat) (x2 : Int32) (x3 : Int32) (x5 : Int32) (x4 : Int32) (x6 : Int32) : Option ((Int32 × Int32) ⊕ ((Int32))) :=
  (if x6 < 0 then
    some (.inr x4)
  else
    (f_X12_holds M x3 x6).bind fun v2 =>
    (if v2 = 0 then
      (ob M 12 x0).bind fun _ => (f_X12_mayHave M x0 x6 x5).bind fun v4 =>
      (if v4 = 0 then
        f_X12_given_J96 M x0 x2 x3 x4 x5 x6 (0 : Int32)
      else
        f_X12_given_J96 M x0 x2 x3 x4 x5 x6 (1 : Int32))
    else
      f_X12_given_J96 M x0 x2 x3 x4 x5 x6 (0 : Int32)))
def f_X12_given_L66 (M : Mem) (x0 : Nat) (x2 : Int32) (x3 : Int32) (x5 : Int32) (x4 : Int32) (x6 : Int32) : Option ((Int32)) := iter (fun s : Int32 × Int32 => f_X12_given_B66 M x0 x2 x3 x5 s.1 s.2) 1048576 (x4, x6)
set_option maxRecDepth 20000 in
theorem B_X12_given_66 {l : Launch} {G : Gv} {lim : Nat × Nat} (M : Mem) (x0 : Nat) (x2 : Int32) (x3 : Int32) (x5 : Int32) (x4 : Int32) (x6 : Int32) (K : (Int32 × Int32) ⊕ ((Int32)) → Option (Option Value × Mem)) (kk1 : ∀ (s4 : Int32) (s6 : Int32), SimR l G Y_X12_given lim (K (.inl (s4, s6))) 66 [some (.inr (.inr x0)), none, some (.inl x2), some (.inl x3), some (.inl s4), some (.inl x5), some (.inl s6), none] [] M) (kk2_0 : ∀ (s4 : Int32), SimR l G Y_X12_given lim (K (.inr s4)) 164 [some (.inr (.inr x0)), none, some (.inl x2), some (.inl x3), some (.inl s4), some (.inl x5), none, none] [] M) : Sim l G Y_X12_given lim (f_X12_given_B66 M x0 x2 x3 x5 x4 x6) K 66 [some (.inr (.inr x0)), none, some (.inl x2), some (.inl x3), some (.inl x4), some (.inl x5), some (.inl x6), none] [] M := by
  unfold f_X12_given_B66
  refine s_run (b := [(.iload 6, 2)]) 68 [some (.inr (.inr x0)), none, some (.inl x2), some (.inl x3), some (.inl x4), some (.inl x5), some (.inl x6), none] [.inl x6] (by decide +kernel) rfl ?_
  refine s_if_lt (tgt := 164) (off := 96) (by decide +kernel) (by decide) (fun h1 => ?_) (fun h1 => ?_)
  · skip
    exact s_lsub (ls' := [some (.inr (.inr x0)), none, some (.inl x2), some (.inl x3), some (.inl x4), some (.inl x5), none, none]) ⟨rfl, ⟨rfl, ⟨rfl, ⟨rfl, ⟨rfl, trivial⟩⟩⟩⟩⟩ (kk2_0 x4)
  · skip
    refine s_run (b := [(.iload_n 3, 1), (.iload 6, 2)]) 74 [some (.inr (.inr x0)), none, some (.inl x2), some (.inl x3), some (.inl x4), some (.inl x5), some (.inl x6), none] [.inl x6, .inl x3] (by decide +kernel) rfl ?_
    refine s_cS (Z := Y_X12_holds) (vs := [.inl x3, .inl x6]) (st := []) (rO := fun z => some (.inl z)) (mO := fun _ => M) zk_X12_holds q1599 q1598 ⟨by decide, by decide⟩ ⟨rfl, rfl⟩ rfl rfl (Nat.le_of_ble_eq_true rfl) (by decide +kernel) (fun z hz => c_X12_holds hz) (fun v2 => ?_)
    change Sim l G Y_X12_given lim _ _ 77 [some (.inr (.inr x0)), none, some (.inl x2), some (.inl x3), some (.inl x4), some (.inl x5), some (.inl x6), none] [.inl v2] M
    refine s_if_ne (tgt := 95) (off := 18) (by decide +kernel) (by decide) (fun h3 => ?_) (fun h3 => ?_)
    · skip
      refine s_run (b := [(.aload_n 0, 1), (.iload 6, 2), (.iload 5, 2)]) 85 [some (.inr (.inr x0)), none, some (.inl x2), some (.inl x3), some (.inl x4), some (.inl x5), some (.inl x6), none] [.inl x5, .inl x6, .inr (.inr x0)] (by decide +kernel) rfl ?_
      refine s_cV (Z := Y_X12_mayHave) (c := 12) (vs := [.inl x6, .inl x5]) (st := []) (rO := fun z => some (.inl z)) (mO := fun _ => M) zk_X12_mayHave zi_X12_mayHave q1858 rfl ⟨by decide, by decide⟩ ⟨rfl, rfl⟩ rfl rfl (Nat.le_of_ble_eq_true rfl) (by decide +kernel) (fun z hz => c_X12_mayHave hz) (fun v4 => ?_)
      change Sim l G Y_X12_given lim _ _ 88 [some (.inr (.inr x0)), none, some (.inl x2), some (.inl x3), some (.inl x4), some (.inl x5), some (.inl x6), none] [.inl v4] M
      refine s_if_eq (tgt := 95) (off := 7) (by decide +kernel) (by decide) (fun h5 => ?_) (fun h5 => ?_)
      · skip
        refine s_run (b := [(.iconst 0, 1)]) 96 [some (.inr (.inr x0)), none, some (.inl x2), some (.inl x3), some (.inl x4), some (.inl x5), some (.inl x6), none] [.inl (0 : Int32)] (by decide +kernel) rfl ?_
        exact s_lsub (ls' := [some (.inr (.inr x0)), none, some (.inl x2), some (.inl x3), some (.inl x4), some (.inl x5), some (.inl x6), none]) ⟨rfl, ⟨rfl, ⟨rfl, ⟨rfl, ⟨rfl, ⟨rfl, trivial⟩⟩⟩⟩⟩⟩ (J_X12_given_96 M x0 x2 x3 x4 x5 x6 (0 : Int32) K kk1 kk2_0)
      · skip
        refine s_run (b := [(.iconst 1, 1), (.goto 4, 3)]) 96 [some (.inr (.inr x0)), none, some (.inl x2), some (.inl x3), some (.inl x4), some (.inl x5), some (.inl x6), none] [.inl (1 : Int32)] (by decide +kernel) rfl ?_
        exact s_lsub (ls' := [some (.inr (.inr x0)), none, some (.inl x2), some (.inl x3), some (.inl x4), some (.inl x5), some (.inl x6), none]) ⟨rfl, ⟨rfl, ⟨rfl, ⟨rfl, ⟨rfl, ⟨rfl, trivial⟩⟩⟩⟩⟩⟩ (J_X12_given_96 M x0 x2 x3 x4 x5 x6 (1 : Int32) K kk1 kk2_0)
    · skip
      refine s_run (b := [(.iconst 0, 1)]) 96 [some (.inr (.inr x0)), none, some (.inl x2), some (.inl x3), some (.inl x4), some (.inl x5), some (.inl x6), none] [.inl (0 : Int32)] (by decide +kernel) rfl ?_
      exact s_lsub (ls' := [some (.inr (.inr x0)), none, some (.inl x2), some (.inl x3), some (.inl x4), some (.inl x5), some (.inl x6), none]) ⟨rfl, ⟨rfl, ⟨rfl, ⟨rfl, ⟨rfl, ⟨rfl, trivial⟩⟩⟩⟩⟩⟩ (J_X12_given_96 M x0 x2 x3 x4 x5 x6 (0 : Int32) K kk1 kk2_0)
set_option maxRecDepth 20000 in
theorem L_X12_given_66 {l : Launch} {G : Gv} {lim : Nat × Nat} (M : Mem) (x0 : Nat) (x2 : Int32) (x3 : Int32) (x5 : Int32) (x4 : Int32) (x6 : Int32) (K : ((Int32)) → Option (Option Value × Mem)) (kk2_0 : ∀ r : Int32, SimR l G Y_X12_given lim (K r) 164 [some (.inr (.inr x0)), none, some (.inl x2), some (.inl x3), some (.inl r), some (.inl x5), none, none] [] M) : Sim l G Y_X12_given lim (f_X12_given_L66 M x0 x2 x3 x5 x4 x6) K 66 [some (.inr (.inr x0)), none, some (.inl x2), some (.inl x3), some (.inl x4), some (.inl x5), some (.inl x6), none] [] M :=
  s_iter (f := fun s : Int32 × Int32 => f_X12_given_B66 M x0 x2 x3 x5 s.1 s.2) (hd := 66) (cl := fun s => [some (.inr (.inr x0)), none, some (.inl x2), some (.inl x3), some (.inl s.1), some (.inl x5), some (.inl s.2), none]) (cm := fun s => M) (xp := fun _ => 164) (xl := fun r => [some (.inr (.inr x0)), none, some (.inl x2), some (.inl x3), some (.inl r), some (.inl x5), none, none]) (xm := fun r => M) (fun s K h1 h2 => B_X12_given_66 M x0 x2 x3 x5 s.1 s.2 K (fun a4 a6 => h1 (a4, a6)) (fun a4 => h2 a4)) 1048576 (x4, x6) K kk2_0
def f_X12_given_B48 (M : Mem) (x0 : Nat) (x2 : Int32) (x3 : Int32) (x4 : Int32) (x5 : Int32) : Option ((Int32 × Int32 × Int32) ⊕ ((Int32))) :=
  (if x2 < x5 then
    some (.inr x4)
  else
    (gI M 12 x0 12).bind fun v2 =>
    (f_X12_given_L66 M x0 x2 x3 x5 (8 : Int32) (v2 - (1 : Int32))).bind fun r3 =>
    (if r3 = (8 : Int32) then
      some (.inl ((x3 ||| (0 : Int32)), r3, (x5 + (1 : Int32))))
    else
      some (.inl ((x3 ||| ((1 : Int32) <<< (r3 &&& 31))), r3, (x5 + (1 : Int32))))))
def f_X12_given_L48 (M : Mem) (x0 : Nat) (x2 : Int32) (x3 : Int32) (x4 : Int32) (x5 : Int32) : Option ((Int32)) := iter (fun s : Int32 × Int32 × Int32 => f_X12_given_B48 M x0 x2 s.1 s.2.1 s.2.2) 1048576 (x3, x4, x5)
set_option maxRecDepth 20000 in
theorem B_X12_given_48 {l : Launch} {G : Gv} {lim : Nat × Nat} (M : Mem) (x0 : Nat) (x2 : Int32) (x3 : Int32) (x4 : Int32) (x5 : Int32) (K : (Int32 × Int32 × Int32) ⊕ ((Int32)) → Option (Option Value × Mem)) (kk1 : ∀ (s3 : Int32) (s4 : Int32) (s5 : Int32), SimR l G Y_X12_given lim (K (.inl (s3, s4, s5))) 48 [some (.inr (.inr x0)), none, some (.inl x2), some (.inl s3), some (.inl s4), some (.inl s5), none, none] [] M) (kk2_0 : ∀ (s4 : Int32), SimR l G Y_X12_given lim (K (.inr s4)) 188 [none, none, none, none, some (.inl s4), none, none, none] [] M) : Sim l G Y_X12_given lim (f_X12_given_B48 M x0 x2 x3 x4 x5) K 48 [some (.inr (.inr x0)), none, some (.inl x2), some (.inl x3), some (.inl x4), some (.inl x5), none, none] [] M := by
  unfold f_X12_given_B48
  refine s_run (b := [(.iload 5, 2), (.iload_n 2, 1)]) 51 [some (.inr (.inr x0)), none, some (.inl x2), some (.inl x3), some (.inl x4), some (.inl x5), none, none] [.inl x2, .inl x5] (by decide +kernel) rfl ?_
  refine s_ic_gt (tgt := 188) (off := 137) (by decide +kernel) (by decide) (fun h1 => ?_) (fun h1 => ?_)
  · skip
    exact s_lsub (ls' := [none, none, none, none, some (.inl x4), none, none, none]) ⟨rfl, trivial⟩ (kk2_0 x4)
  · skip
    refine s_run (b := [(.bipush 8, 2), (.istore 4, 2), (.aload_n 0, 1)]) 59 [some (.inr (.inr x0)), none, some (.inl x2), some (.inl x3), some (.inl (8 : Int32)), some (.inl x5), none, none] [.inr (.inr x0)] (by decide +kernel) rfl ?_
    refine s_gI fl_12_162 rfl (by decide +kernel) (fun v2 => ?_)
    refine s_run (b := [(.iconst 1, 1), (.isub, 1), (.istore 6, 2)]) 66 [some (.inr (.inr x0)), none, some (.inl x2), some (.inl x3), some (.inl (8 : Int32)), some (.inl x5), some (.inl (v2 - (1 : Int32))), none] [] (by decide +kernel) rfl ?_
    refine s_lsub (ls' := [some (.inr (.inr x0)), none, some (.inl x2), some (.inl x3), some (.inl (8 : Int32)), some (.inl x5), some (.inl (v2 - (1 : Int32))), none]) ⟨rfl, ⟨rfl, ⟨rfl, ⟨rfl, ⟨rfl, ⟨rfl, trivial⟩⟩⟩⟩⟩⟩ ?_
    refine sim_bind (L_X12_given_66 M x0 x2 x3 x5 (8 : Int32) (v2 - (1 : Int32)) _ (fun r3 => ?_))
    change Sim l G Y_X12_given lim _ _ 164 [some (.inr (.inr x0)), none, some (.inl x2), some (.inl x3), some (.inl r3), some (.inl x5), none, none] [] M
    refine s_run (b := [(.iload_n 3, 1), (.iload 4, 2), (.bipush 8, 2)]) 169 [some (.inr (.inr x0)), none, some (.inl x2), some (.inl x3), some (.inl r3), some (.inl x5), none, none] [.inl (8 : Int32), .inl r3, .inl x3] (by decide +kernel) rfl ?_
    refine s_ic_ne (tgt := 176) (off := 7) (by decide +kernel) (by decide) (fun h4 => ?_) (fun h4 => ?_)
    · skip
      refine s_run (b := [(.iconst 0, 1), (.goto 7, 3), (.ior, 1), (.istore_n 3, 1), (.iinc 5 1, 3), (.goto (-137), 3)]) 48 [some (.inr (.inr x0)), none, some (.inl x2), some (.inl (x3 ||| (0 : Int32))), some (.inl r3), some (.inl (x5 + (1 : Int32))), none, none] [] (by decide +kernel) rfl ?_
      exact s_lsub (ls' := [some (.inr (.inr x0)), none, some (.inl x2), some (.inl (x3 ||| (0 : Int32))), some (.inl r3), some (.inl (x5 + (1 : Int32))), none, none]) ⟨rfl, ⟨rfl, ⟨rfl, ⟨rfl, ⟨rfl, trivial⟩⟩⟩⟩⟩ (kk1 (x3 ||| (0 : Int32)) r3 (x5 + (1 : Int32)))
    · skip
      refine s_run (b := [(.iconst 1, 1), (.iload 4, 2), (.ishl, 1), (.ior, 1), (.istore_n 3, 1), (.iinc 5 1, 3), (.goto (-137), 3)]) 48 [some (.inr (.inr x0)), none, some (.inl x2), some (.inl (x3 ||| ((1 : Int32) <<< (r3 &&& 31)))), some (.inl r3), some (.inl (x5 + (1 : Int32))), none, none] [] (by decide +kernel) rfl ?_
      exact s_lsub (ls' := [some (.inr (.inr x0)), none, some (.inl x2), some (.inl (x3 ||| ((1 : Int32) <<< (r3 &&& 31)))), some (.inl r3), some (.inl (x5 + (1 : Int32))), none, none]) ⟨rfl, ⟨rfl, ⟨rfl, ⟨rfl, ⟨rfl, trivial⟩⟩⟩⟩⟩ (kk1 (x3 ||| ((1 : Int32) <<< (r3 &&& 31))) r3 (x5 + (1 : Int32)))
set_option maxRecDepth 20000 in
theorem L_X12_given_48 {l : Launch} {G : Gv} {lim : Nat × Nat} (M : Mem) (x0 : Nat) (x2 : Int32) (x3 : Int32) (x4 : Int32) (x5 : Int32) (K : ((Int32)) → Option (Option Value × Mem)) (kk2_0 : ∀ r : Int32, SimR l G Y_X12_given lim (K r) 188 [none, none, none, none, some (.inl r), none, none, none] [] M) : Sim l G Y_X12_given lim (f_X12_given_L48 M x0 x2 x3 x4 x5) K 48 [some (.inr (.inr x0)), none, some (.inl x2), some (.inl x3), some (.inl x4), some (.inl x5), none, none] [] M :=
  s_iter (f := fun s : Int32 × Int32 × Int32 => f_X12_given_B48 M x0 x2 s.1 s.2.1 s.2.2) (hd := 48) (cl := fun s => [some (.inr (.inr x0)), none, some (.inl x2), some (.inl s.1), some (.inl s.2.1), some (.inl s.2.2), none, none]) (cm := fun s => M) (xp := fun _ => 188) (xl := fun r => [none, none, none, none, some (.inl r), none, none, none]) (xm := fun r => M) (fun s K h1 h2 => B_X12_given_48 M x0 x2 s.1 s.2.1 s.2.2 K (fun a3 a4 a5 => h1 (a3, a4, a5)) (fun a4 => h2 a4)) 1048576 (x3, x4, x5) K kk2_0
def f_X12_given_J23 (M : Mem) (x0 : Nat) (x2 : Int32)  : Option (Int32 × Mem) :=
  (ob M 12 x0).bind fun _ => (f_X12_gives M x0).bind fun z1 =>
  (if x2 = (-1 : Int32) then
    (gR z1 12 x0 41).bind fun v3 =>
    (aI z1 0 v3 (0 : Int32)).bind fun v4 =>
    some (v4, z1)
  else
    (f_X12_given_L48 z1 x0 x2 (0 : Int32) (8 : Int32) (0 : Int32)).bind fun r5 =>
    some (r5, z1))
set_option maxRecDepth 20000 in
theorem J_X12_given_23 {l : Launch} {G : Gv} {lim : Nat × Nat} (M : Mem) (x0 : Nat) (x2 : Int32)   : Sim l G Y_X12_given lim (f_X12_given_J23 M x0 x2) (fun z => some (some (.int z.1), z.2)) 23 [some (.inr (.inr x0)), none, some (.inl x2), none, none, none, none, none] [] M := by
  unfold f_X12_given_J23
  refine s_run (b := [(.aload_n 0, 1)]) 24 [some (.inr (.inr x0)), none, some (.inl x2), none, none, none, none, none] [.inr (.inr x0)] (by decide +kernel) rfl ?_
  refine s_cV (Z := Y_X12_gives) (c := 12) (vs := []) (st := []) (rO := fun _ => none) (mO := fun z => z) zk_X12_gives zi_X12_gives q1854 rfl ⟨by decide, by decide⟩ ⟨rfl, rfl⟩ rfl rfl (Nat.le_of_ble_eq_true rfl) (by decide +kernel) (fun z hz => c_X12_gives hz) (fun z1 => ?_)
  change Sim l G Y_X12_given lim _ _ 27 [some (.inr (.inr x0)), none, some (.inl x2), none, none, none, none, none] [] z1
  refine s_run (b := [(.iload_n 2, 1), (.iconst (-1), 1)]) 29 [some (.inr (.inr x0)), none, some (.inl x2), none, none, none, none, none] [.inl (-1 : Int32), .inl x2] (by decide +kernel) rfl ?_
  refine s_ic_ne (tgt := 39) (off := 10) (by decide +kernel) (by decide) (fun h2 => ?_) (fun h2 => ?_)
  · skip
    refine s_run (b := [(.aload_n 0, 1)]) 33 [some (.inr (.inr x0)), none, some (.inl x2), none, none, none, none, none] [.inr (.inr x0)] (by decide +kernel) rfl ?_
    refine s_gR fl_12_48 rfl (by decide +kernel) (fun v3 => ?_)
    refine s_run (b := [(.iconst 0, 1)]) 37 [some (.inr (.inr x0)), none, some (.inl x2), none, none, none, none, none] [.inl (0 : Int32), .inr (.inr v3)] (by decide +kernel) rfl ?_
    refine s_ia (by decide +kernel) (fun v4 => ?_)
    exact s_iret (by decide +kernel) rfl
  · skip
    refine s_run (b := [(.iconst 0, 1), (.istore_n 3, 1), (.bipush 8, 2), (.istore 4, 2), (.iconst 0, 1), (.istore 5, 2)]) 48 [some (.inr (.inr x0)), none, some (.inl x2), some (.inl (0 : Int32)), some (.inl (8 : Int32)), some (.inl (0 : Int32)), none, none] [] (by decide +kernel) rfl ?_
    refine s_lsub (ls' := [some (.inr (.inr x0)), none, some (.inl x2), some (.inl (0 : Int32)), some (.inl (8 : Int32)), some (.inl (0 : Int32)), none, none]) ⟨rfl, ⟨rfl, ⟨rfl, ⟨rfl, ⟨rfl, trivial⟩⟩⟩⟩⟩ ?_
    refine sim_bind (L_X12_given_48 z1 x0 x2 (0 : Int32) (8 : Int32) (0 : Int32) _ (fun r5 => ?_))
    change Sim l G Y_X12_given lim _ _ 188 [none, none, none, none, some (.inl r5), none, none, none] [] z1
    refine s_run (b := [(.iload 4, 2)]) 190 [none, none, none, none, some (.inl r5), none, none, none] [.inl r5] (by decide +kernel) rfl ?_
    exact s_iret (by decide +kernel) rfl
def f_X12_given (M : Mem) (x0 : Nat) (x1 : Int32) (x2 : Int32) : Option (Int32 × Mem) :=
  (ob M 12 x0).bind fun _ => (f_X12_isOffice M x0 x1).bind fun z1 =>
  (if z1.1 = 0 then
    some ((-1 : Int32), z1.2)
  else
    (if x2 = (-1 : Int32) then
      f_X12_given_J23 z1.2 x0 x2 
    else
      (ob z1.2 12 x0).bind fun _ => (f_X12_isCall z1.2 x0 x2).bind fun v4 =>
      (if v4 = 0 then
        some ((-1 : Int32), z1.2)
      else
        f_X12_given_J23 z1.2 x0 x2 )))
set_option maxRecDepth 20000 in
theorem S_X12_given {l : Launch} {G : Gv} {lim : Nat × Nat} (M : Mem) (x0 : Nat) (x1 : Int32) (x2 : Int32) : Sim l G Y_X12_given lim (f_X12_given M x0 x1 x2) (fun z => some (some (.int z.1), z.2)) 0 [some (.inr (.inr x0)), some (.inl x1), some (.inl x2), none, none, none, none, none] [] M := by
  unfold f_X12_given
  refine s_run (b := [(.aload_n 0, 1), (.iload_n 1, 1)]) 2 [some (.inr (.inr x0)), some (.inl x1), some (.inl x2), none, none, none, none, none] [.inl x1, .inr (.inr x0)] (by decide +kernel) rfl ?_
  refine s_cV (Z := Y_X12_isOffice) (c := 12) (vs := [.inl x1]) (st := []) (rO := fun z => some (.inl z.1)) (mO := fun z => z.2) zk_X12_isOffice zi_X12_isOffice q1550 rfl ⟨by decide, by decide⟩ ⟨rfl, rfl⟩ rfl rfl (Nat.le_of_ble_eq_true rfl) (by decide +kernel) (fun z hz => c_X12_isOffice hz) (fun z1 => ?_)
  change Sim l G Y_X12_given lim _ _ 5 [some (.inr (.inr x0)), some (.inl x1), some (.inl x2), none, none, none, none, none] [.inl z1.1] z1.2
  refine s_if_eq (tgt := 21) (off := 16) (by decide +kernel) (by decide) (fun h2 => ?_) (fun h2 => ?_)
  · skip
    refine s_run (b := [(.iconst (-1), 1)]) 22 [some (.inr (.inr x0)), some (.inl x1), some (.inl x2), none, none, none, none, none] [.inl (-1 : Int32)] (by decide +kernel) rfl ?_
    exact s_iret (by decide +kernel) rfl
  · skip
    refine s_run (b := [(.iload_n 2, 1), (.iconst (-1), 1)]) 10 [some (.inr (.inr x0)), some (.inl x1), some (.inl x2), none, none, none, none, none] [.inl (-1 : Int32), .inl x2] (by decide +kernel) rfl ?_
    refine s_ic_eq (tgt := 23) (off := 13) (by decide +kernel) (by decide) (fun h3 => ?_) (fun h3 => ?_)
    · skip
      exact s_lsub (ls' := [some (.inr (.inr x0)), none, some (.inl x2), none, none, none, none, none]) ⟨rfl, ⟨rfl, trivial⟩⟩ (J_X12_given_23 z1.2 x0 x2 )
    · skip
      refine s_run (b := [(.aload_n 0, 1), (.iload_n 2, 1)]) 15 [some (.inr (.inr x0)), some (.inl x1), some (.inl x2), none, none, none, none, none] [.inl x2, .inr (.inr x0)] (by decide +kernel) rfl ?_
      refine s_cV (Z := Y_X12_isCall) (c := 12) (vs := [.inl x2]) (st := []) (rO := fun z => some (.inl z)) (mO := fun _ => z1.2) zk_X12_isCall zi_X12_isCall q1562 rfl ⟨by decide, by decide⟩ ⟨rfl, rfl⟩ rfl rfl (Nat.le_of_ble_eq_true rfl) (by decide +kernel) (fun z hz => c_X12_isCall hz) (fun v4 => ?_)
      change Sim l G Y_X12_given lim _ _ 18 [some (.inr (.inr x0)), some (.inl x1), some (.inl x2), none, none, none, none, none] [.inl v4] z1.2
      refine s_if_ne (tgt := 23) (off := 5) (by decide +kernel) (by decide) (fun h5 => ?_) (fun h5 => ?_)
      · skip
        refine s_run (b := [(.iconst (-1), 1)]) 22 [some (.inr (.inr x0)), some (.inl x1), some (.inl x2), none, none, none, none, none] [.inl (-1 : Int32)] (by decide +kernel) rfl ?_
        exact s_iret (by decide +kernel) rfl
      · skip
        exact s_lsub (ls' := [some (.inr (.inr x0)), none, some (.inl x2), none, none, none, none, none]) ⟨rfl, ⟨rfl, trivial⟩⟩ (J_X12_given_23 z1.2 x0 x2 )
set_option maxRecDepth 20000 in
theorem c_X12_given {l : Launch} {G : Gv} {M : Mem} {x0 : Nat} {x1 : Int32} {x2 : Int32} {z : Int32 × Mem} (h : f_X12_given M x0 x1 x2 = some z) : MetS l G Y_X12_given [.inr (.inr x0), .inl x1, .inl x2] M (some (.int z.1)) z.2 :=
  met_of (ls0 := [some (.inr (.inr x0)), some (.inl x1), some (.inl x2), none, none, none, none, none]) (by decide) rfl (lv_in (m := 5) rfl) (sl_le (Nat.le_of_ble_eq_true rfl)) (by rw [h]; rfl) (Or.inl ⟨rfl, rfl⟩) (S_X12_given M x0 x1 x2)
def f_X12_image_B20 (M : Mem) (x0 : Nat) (x1 : Int32) (x2 : Int32) : Option ((Int32 × Mem) ⊕ ((Mem))) :=
  (if (988 : Int32) ≤ x2 then
    some (.inr M)
  else
    (gR M 12 x0 0).bind fun v2 =>
    (gR M 12 x0 0).bind fun v3 =>
    (aI M 0 v3 x2).bind fun v4 =>
    (sI M 0 v2 (((988 : Int32) * (x1 + (1 : Int32))) + x2) v4).bind fun M5 =>
    some (.inl ((x2 + (1 : Int32)), M5)))
def f_X12_image_L20 (M : Mem) (x0 : Nat) (x1 : Int32) (x2 : Int32) : Option ((Mem)) := iter (fun s : Int32 × Mem => f_X12_image_B20 s.2 x0 x1 s.1) 1048576 (x2, M)
set_option maxRecDepth 20000 in
theorem B_X12_image_20 {l : Launch} {G : Gv} {lim : Nat × Nat} (M : Mem) (x0 : Nat) (x1 : Int32) (x2 : Int32) (K : (Int32 × Mem) ⊕ ((Mem)) → Option (Option Value × Mem)) (kk1 : ∀ (s2 : Int32) (s_ : Mem), SimR l G Y_X12_image lim (K (.inl (s2, s_))) 20 [some (.inr (.inr x0)), some (.inl x1), some (.inl s2)] [] s_) (kk2_0 : ∀ (s_ : Mem), SimR l G Y_X12_image lim (K (.inr s_)) 53 [none, none, none] [] s_) : Sim l G Y_X12_image lim (f_X12_image_B20 M x0 x1 x2) K 20 [some (.inr (.inr x0)), some (.inl x1), some (.inl x2)] [] M := by
  unfold f_X12_image_B20
  refine s_run (b := [(.iload_n 2, 1), (.sipush 988, 3)]) 24 [some (.inr (.inr x0)), some (.inl x1), some (.inl x2)] [.inl (988 : Int32), .inl x2] (by decide +kernel) rfl ?_
  refine s_ic_ge (tgt := 53) (off := 29) (by decide +kernel) (by decide) (fun h1 => ?_) (fun h1 => ?_)
  · skip
    exact s_lsub (ls' := [none, none, none]) trivial (kk2_0 M)
  · skip
    refine s_run (b := [(.aload_n 0, 1)]) 28 [some (.inr (.inr x0)), some (.inl x1), some (.inl x2)] [.inr (.inr x0)] (by decide +kernel) rfl ?_
    refine s_gR fl_12_7 rfl (by decide +kernel) (fun v2 => ?_)
    refine s_run (b := [(.sipush 988, 3), (.iload_n 1, 1), (.iconst 1, 1), (.iadd, 1), (.imul, 1), (.iload_n 2, 1), (.iadd, 1), (.aload_n 0, 1)]) 41 [some (.inr (.inr x0)), some (.inl x1), some (.inl x2)] [.inr (.inr x0), .inl (((988 : Int32) * (x1 + (1 : Int32))) + x2), .inr (.inr v2)] (by decide +kernel) rfl ?_
    refine s_gR fl_12_7 rfl (by decide +kernel) (fun v3 => ?_)
    refine s_run (b := [(.iload_n 2, 1)]) 45 [some (.inr (.inr x0)), some (.inl x1), some (.inl x2)] [.inl x2, .inr (.inr v3), .inl (((988 : Int32) * (x1 + (1 : Int32))) + x2), .inr (.inr v2)] (by decide +kernel) rfl ?_
    refine s_ia (by decide +kernel) (fun v4 => ?_)
    refine s_is (by decide +kernel) (fun M5 => ?_)
    refine s_run (b := [(.iinc 2 1, 3), (.goto (-30), 3)]) 20 [some (.inr (.inr x0)), some (.inl x1), some (.inl (x2 + (1 : Int32)))] [] (by decide +kernel) rfl ?_
    exact s_lsub (ls' := [some (.inr (.inr x0)), some (.inl x1), some (.inl (x2 + (1 : Int32)))]) ⟨rfl, ⟨rfl, ⟨rfl, trivial⟩⟩⟩ (kk1 (x2 + (1 : Int32)) M5)
set_option maxRecDepth 20000 in
theorem L_X12_image_20 {l : Launch} {G : Gv} {lim : Nat × Nat} (M : Mem) (x0 : Nat) (x1 : Int32) (x2 : Int32) (K : ((Mem)) → Option (Option Value × Mem)) (kk2_0 : ∀ r : Mem, SimR l G Y_X12_image lim (K r) 53 [none, none, none] [] r) : Sim l G Y_X12_image lim (f_X12_image_L20 M x0 x1 x2) K 20 [some (.inr (.inr x0)), some (.inl x1), some (.inl x2)] [] M :=
  s_iter (f := fun s : Int32 × Mem => f_X12_image_B20 s.2 x0 x1 s.1) (hd := 20) (cl := fun s => [some (.inr (.inr x0)), some (.inl x1), some (.inl s.1)]) (cm := fun s => s.2) (xp := fun _ => 53) (xl := fun r => [none, none, none]) (xm := fun r => r) (fun s K h1 h2 => B_X12_image_20 s.2 x0 x1 s.1 K (fun a2 a_ => h1 (a2, a_)) (fun a_ => h2 a_)) 1048576 (x2, M) K kk2_0
def f_X12_image (M : Mem) (x0 : Nat) (x1 : Int32) : Option (Int32 × Mem) :=
  (f_X12_isIn M x1 (0 : Int32) (2 : Int32)).bind fun v1 =>
  (if v1 = 0 then
    some ((0 : Int32), M)
  else
    (gR M 12 x0 1).bind fun v3 =>
    (sI M 2 v3 x1 (1 : Int32)).bind fun M4 =>
    (f_X12_image_L20 M4 x0 x1 (0 : Int32)).bind fun r5 =>
    some ((1 : Int32), r5))
set_option maxRecDepth 20000 in
theorem S_X12_image {l : Launch} {G : Gv} {lim : Nat × Nat} (M : Mem) (x0 : Nat) (x1 : Int32) : Sim l G Y_X12_image lim (f_X12_image M x0 x1) (fun z => some (some (.int z.1), z.2)) 0 [some (.inr (.inr x0)), some (.inl x1), none] [] M := by
  unfold f_X12_image
  refine s_run (b := [(.iload_n 1, 1), (.iconst 0, 1), (.iconst 2, 1)]) 3 [some (.inr (.inr x0)), some (.inl x1), none] [.inl (2 : Int32), .inl (0 : Int32), .inl x1] (by decide +kernel) rfl ?_
  refine s_cS (Z := Y_X12_isIn) (vs := [.inl x1, .inl (0 : Int32), .inl (2 : Int32)]) (st := []) (rO := fun z => some (.inl z)) (mO := fun _ => M) zk_X12_isIn q1464 q1463 ⟨by decide, by decide⟩ ⟨rfl, rfl⟩ rfl rfl (Nat.le_of_ble_eq_true rfl) (by decide +kernel) (fun z hz => c_X12_isIn hz) (fun v1 => ?_)
  change Sim l G Y_X12_image lim _ _ 6 [some (.inr (.inr x0)), some (.inl x1), none] [.inl v1] M
  refine s_if_ne (tgt := 11) (off := 5) (by decide +kernel) (by decide) (fun h2 => ?_) (fun h2 => ?_)
  · skip
    refine s_run (b := [(.iconst 0, 1)]) 10 [some (.inr (.inr x0)), some (.inl x1), none] [.inl (0 : Int32)] (by decide +kernel) rfl ?_
    exact s_bret (Or.inl rfl) (by decide +kernel) rfl
  · skip
    refine s_run (b := [(.aload_n 0, 1)]) 12 [some (.inr (.inr x0)), some (.inl x1), none] [.inr (.inr x0)] (by decide +kernel) rfl ?_
    refine s_gR fl_12_13 rfl (by decide +kernel) (fun v3 => ?_)
    refine s_run (b := [(.iload_n 1, 1), (.iconst 1, 1)]) 17 [some (.inr (.inr x0)), some (.inl x1), none] [.inl (1 : Int32), .inl x1, .inr (.inr v3)] (by decide +kernel) rfl ?_
    refine s_bs (by decide) (by decide +kernel) (fun M4 => ?_)
    refine s_run (b := [(.iconst 0, 1), (.istore_n 2, 1)]) 20 [some (.inr (.inr x0)), some (.inl x1), some (.inl (0 : Int32))] [] (by decide +kernel) rfl ?_
    refine s_lsub (ls' := [some (.inr (.inr x0)), some (.inl x1), some (.inl (0 : Int32))]) ⟨rfl, ⟨rfl, ⟨rfl, trivial⟩⟩⟩ ?_
    refine sim_bind (L_X12_image_20 M4 x0 x1 (0 : Int32) _ (fun r5 => ?_))
    change Sim l G Y_X12_image lim _ _ 53 [none, none, none] [] r5
    refine s_run (b := [(.iconst 1, 1)]) 54 [none, none, none] [.inl (1 : Int32)] (by decide +kernel) rfl ?_
    exact s_bret (Or.inr rfl) (by decide +kernel) rfl
set_option maxRecDepth 20000 in
theorem c_X12_image {l : Launch} {G : Gv} {M : Mem} {x0 : Nat} {x1 : Int32} {z : Int32 × Mem} (h : f_X12_image M x0 x1 = some z) : MetS l G Y_X12_image [.inr (.inr x0), .inl x1] M (some (.int z.1)) z.2 :=
  met_of (ls0 := [some (.inr (.inr x0)), some (.inl x1), none]) (by decide) rfl (lv_in (m := 1) rfl) (sl_le (Nat.le_of_ble_eq_true rfl)) (by rw [h]; rfl) (Or.inl ⟨rfl, rfl⟩) (S_X12_image M x0 x1)
def f_X12_init_main (lim : Nat × Nat) (M : Mem) (x0 : Nat) : Option (Mem) :=
  (ob M 12 x0).bind fun _ =>
  (newS lim M (.inr (0, 3952))).bind fun z1 =>
  (pR z1.2 12 x0 0 z1.1).bind fun M2 =>
  (newS lim M2 (.inr (2, 3))).bind fun z3 =>
  (pR z3.2 12 x0 1 z3.1).bind fun M4 =>
  (newS lim M4 (.inr (0, 81))).bind fun z5 =>
  (pR z5.2 12 x0 10 z5.1).bind fun M6 =>
  (newS lim M6 (.inr (0, 8))).bind fun z7 =>
  (pR z7.2 12 x0 14 z7.1).bind fun M8 =>
  (newS lim M8 (.inr (0, 8))).bind fun z9 =>
  (pR z9.2 12 x0 15 z9.1).bind fun M10 =>
  (newS lim M10 (.inr (0, 8))).bind fun z11 =>
  (pR z11.2 12 x0 28 z11.1).bind fun M12 =>
  (newS lim M12 (.inr (0, 8))).bind fun z13 =>
  (pR z13.2 12 x0 29 z13.1).bind fun M14 =>
  (newS lim M14 (.inr (0, 8))).bind fun z15 =>
  (pR z15.2 12 x0 30 z15.1).bind fun M16 =>
  (newS lim M16 (.inr (3, 256))).bind fun z17 =>
  (pR z17.2 12 x0 34 z17.1).bind fun M18 =>
  (newS lim M18 (.inr (0, 9))).bind fun z19 =>
  (pR z19.2 12 x0 36 z19.1).bind fun M20 =>
  (newS lim M20 (.inr (0, 5))).bind fun z21 =>
  (pR z21.2 12 x0 39 z21.1).bind fun M22 =>
  (newS lim M22 (.inr (0, 5))).bind fun z23 =>
  (pR z23.2 12 x0 40 z23.1).bind fun M24 =>
  (newS lim M24 (.inr (0, 2816))).bind fun z25 =>
  (pR z25.2 12 x0 41 z25.1).bind fun M26 =>
  (newS lim M26 (.inr (0, 189))).bind fun z27 =>
  (pR z27.2 12 x0 42 z27.1).bind fun M28 =>
  (gR M28 12 x0 0).bind fun v29 =>
  (sI M28 0 v29 (6 : Int32) (-1 : Int32)).bind fun M30 =>
  some M30
set_option maxRecDepth 20000 in
theorem S_X12_init {l : Launch} {G : Gv} {lim : Nat × Nat} (M : Mem) (x0 : Nat) : Sim l G Y_X12_init lim (f_X12_init_main lim M x0) (fun z => some (none, z)) 0 [some (.inr (.inr x0))] [] M := by
  unfold f_X12_init_main
  refine s_run (b := [(.aload_n 0, 1)]) 1 [some (.inr (.inr x0))] [.inr (.inr x0)] (by decide +kernel) rfl ?_
  refine s_objI q1316 q27 q28 ⟨Nat.le_of_ble_eq_true rfl, Nat.le_of_ble_eq_true rfl⟩ (by decide +kernel) ?_
  refine s_run (b := [(.aload_n 0, 1), (.sipush 3952, 3)]) 8 [some (.inr (.inr x0))] [.inl (3952 : Int32), .inr (.inr x0)] (by decide +kernel) rfl ?_
  refine s_newaZ .int (t := 0) (by decide) rfl q131 (by decide) (by decide +kernel) (fun z1 => ?_)
  refine s_pR fl_12_7 (Or.inr ⟨_, rfl⟩) (Or.inr ⟨rfl, _, _, rfl⟩) rfl (by decide +kernel) (fun M2 => ?_)
  refine s_run (b := [(.aload_n 0, 1), (.iconst 3, 1)]) 15 [some (.inr (.inr x0))] [.inl (3 : Int32), .inr (.inr x0)] (by decide +kernel) rfl ?_
  refine s_newaZ .boolean (t := 2) (by decide) rfl q261 (by decide) (by decide +kernel) (fun z3 => ?_)
  refine s_pR fl_12_13 (Or.inr ⟨_, rfl⟩) (Or.inr ⟨rfl, _, _, rfl⟩) rfl (by decide +kernel) (fun M4 => ?_)
  refine s_run (b := [(.aload_n 0, 1), (.bipush 81, 2)]) 23 [some (.inr (.inr x0))] [.inl (81 : Int32), .inr (.inr x0)] (by decide +kernel) rfl ?_
  refine s_newaZ .int (t := 0) (by decide) rfl q131 (by decide) (by decide +kernel) (fun z5 => ?_)
  refine s_pR fl_12_17 (Or.inr ⟨_, rfl⟩) (Or.inr ⟨rfl, _, _, rfl⟩) rfl (by decide +kernel) (fun M6 => ?_)
  refine s_run (b := [(.aload_n 0, 1), (.bipush 8, 2)]) 31 [some (.inr (.inr x0))] [.inl (8 : Int32), .inr (.inr x0)] (by decide +kernel) rfl ?_
  refine s_newaZ .int (t := 0) (by decide) rfl q131 (by decide) (by decide +kernel) (fun z7 => ?_)
  refine s_pR fl_12_20 (Or.inr ⟨_, rfl⟩) (Or.inr ⟨rfl, _, _, rfl⟩) rfl (by decide +kernel) (fun M8 => ?_)
  refine s_run (b := [(.aload_n 0, 1), (.bipush 8, 2)]) 39 [some (.inr (.inr x0))] [.inl (8 : Int32), .inr (.inr x0)] (by decide +kernel) rfl ?_
  refine s_newaZ .int (t := 0) (by decide) rfl q131 (by decide) (by decide +kernel) (fun z9 => ?_)
  refine s_pR fl_12_23 (Or.inr ⟨_, rfl⟩) (Or.inr ⟨rfl, _, _, rfl⟩) rfl (by decide +kernel) (fun M10 => ?_)
  refine s_run (b := [(.aload_n 0, 1), (.bipush 8, 2)]) 47 [some (.inr (.inr x0))] [.inl (8 : Int32), .inr (.inr x0)] (by decide +kernel) rfl ?_
  refine s_newaZ .int (t := 0) (by decide) rfl q131 (by decide) (by decide +kernel) (fun z11 => ?_)
  refine s_pR fl_12_26 (Or.inr ⟨_, rfl⟩) (Or.inr ⟨rfl, _, _, rfl⟩) rfl (by decide +kernel) (fun M12 => ?_)
  refine s_run (b := [(.aload_n 0, 1), (.bipush 8, 2)]) 55 [some (.inr (.inr x0))] [.inl (8 : Int32), .inr (.inr x0)] (by decide +kernel) rfl ?_
  refine s_newaZ .int (t := 0) (by decide) rfl q131 (by decide) (by decide +kernel) (fun z13 => ?_)
  refine s_pR fl_12_29 (Or.inr ⟨_, rfl⟩) (Or.inr ⟨rfl, _, _, rfl⟩) rfl (by decide +kernel) (fun M14 => ?_)
  refine s_run (b := [(.aload_n 0, 1), (.bipush 8, 2)]) 63 [some (.inr (.inr x0))] [.inl (8 : Int32), .inr (.inr x0)] (by decide +kernel) rfl ?_
  refine s_newaZ .int (t := 0) (by decide) rfl q131 (by decide) (by decide +kernel) (fun z15 => ?_)
  refine s_pR fl_12_32 (Or.inr ⟨_, rfl⟩) (Or.inr ⟨rfl, _, _, rfl⟩) rfl (by decide +kernel) (fun M16 => ?_)
  refine s_run (b := [(.aload_n 0, 1), (.sipush 256, 3)]) 72 [some (.inr (.inr x0))] [.inl (256 : Int32), .inr (.inr x0)] (by decide +kernel) rfl ?_
  refine s_newaZ .long (t := 3) (by decide) rfl q1450 (by decide) (by decide +kernel) (fun z17 => ?_)
  refine s_pR fl_12_35 (Or.inr ⟨_, rfl⟩) (Or.inr ⟨rfl, _, _, rfl⟩) rfl (by decide +kernel) (fun M18 => ?_)
  refine s_run (b := [(.aload_n 0, 1), (.bipush 9, 2)]) 80 [some (.inr (.inr x0))] [.inl (9 : Int32), .inr (.inr x0)] (by decide +kernel) rfl ?_
  refine s_newaZ .int (t := 0) (by decide) rfl q131 (by decide) (by decide +kernel) (fun z19 => ?_)
  refine s_pR fl_12_39 (Or.inr ⟨_, rfl⟩) (Or.inr ⟨rfl, _, _, rfl⟩) rfl (by decide +kernel) (fun M20 => ?_)
  refine s_run (b := [(.aload_n 0, 1), (.iconst 5, 1)]) 87 [some (.inr (.inr x0))] [.inl (5 : Int32), .inr (.inr x0)] (by decide +kernel) rfl ?_
  refine s_newaZ .int (t := 0) (by decide) rfl q131 (by decide) (by decide +kernel) (fun z21 => ?_)
  refine s_pR fl_12_42 (Or.inr ⟨_, rfl⟩) (Or.inr ⟨rfl, _, _, rfl⟩) rfl (by decide +kernel) (fun M22 => ?_)
  refine s_run (b := [(.aload_n 0, 1), (.iconst 5, 1)]) 94 [some (.inr (.inr x0))] [.inl (5 : Int32), .inr (.inr x0)] (by decide +kernel) rfl ?_
  refine s_newaZ .int (t := 0) (by decide) rfl q131 (by decide) (by decide +kernel) (fun z23 => ?_)
  refine s_pR fl_12_45 (Or.inr ⟨_, rfl⟩) (Or.inr ⟨rfl, _, _, rfl⟩) rfl (by decide +kernel) (fun M24 => ?_)
  refine s_run (b := [(.aload_n 0, 1), (.sipush 2816, 3)]) 103 [some (.inr (.inr x0))] [.inl (2816 : Int32), .inr (.inr x0)] (by decide +kernel) rfl ?_
  refine s_newaZ .int (t := 0) (by decide) rfl q131 (by decide) (by decide +kernel) (fun z25 => ?_)
  refine s_pR fl_12_48 (Or.inr ⟨_, rfl⟩) (Or.inr ⟨rfl, _, _, rfl⟩) rfl (by decide +kernel) (fun M26 => ?_)
  refine s_run (b := [(.aload_n 0, 1), (.sipush 189, 3)]) 112 [some (.inr (.inr x0))] [.inl (189 : Int32), .inr (.inr x0)] (by decide +kernel) rfl ?_
  refine s_newaZ .int (t := 0) (by decide) rfl q131 (by decide) (by decide +kernel) (fun z27 => ?_)
  refine s_pR fl_12_51 (Or.inr ⟨_, rfl⟩) (Or.inr ⟨rfl, _, _, rfl⟩) rfl (by decide +kernel) (fun M28 => ?_)
  refine s_run (b := [(.aload_n 0, 1)]) 118 [some (.inr (.inr x0))] [.inr (.inr x0)] (by decide +kernel) rfl ?_
  refine s_gR fl_12_7 rfl (by decide +kernel) (fun v29 => ?_)
  refine s_run (b := [(.bipush 6, 2), (.iconst (-1), 1)]) 124 [some (.inr (.inr x0))] [.inl (-1 : Int32), .inl (6 : Int32), .inr (.inr v29)] (by decide +kernel) rfl ?_
  refine s_is (by decide +kernel) (fun M30 => ?_)
  exact s_vret (by decide +kernel) rfl
def f_X12_init (M : Mem) (x0 : Nat) : Option Mem := (f_X12_init_main (M.2.2.2.length + 14, ssum M.2.2.2 + 7356) M x0).bind (fun z => rtS (M.2.2.2.length + 14, ssum M.2.2.2 + 7356) z)
set_option maxRecDepth 20000 in
theorem c_X12_init {l : Launch} {G : Gv} {M : Mem} {x0 : Nat} {z : Mem} (h : f_X12_init M x0 = some z) : MetS l G Y_X12_init [.inr (.inr x0)] M none z := by
  obtain ⟨z1, h1, h2⟩ := Option.bind_eq_some_iff.mp h
  obtain ⟨h3, h2⟩ := ifs h2; cases h2
  exact met_of (ls0 := [some (.inr (.inr x0))]) (by decide) rfl (lv_in (m := 0) rfl) (sl_le (Nat.le_of_ble_eq_true rfl)) (show (f_X12_init_main (M.2.2.2.length + 14, ssum M.2.2.2 + 7356) M x0).bind _ = _ by rw [h1]; rfl) (Or.inr h3) (S_X12_init M x0)
def f_X12_heardBy_B4 (M : Mem) (x0 : Nat) (x1 : Int32) (x2 : Int32) (x3 : Int32) : Option ((Int32 × Int32) ⊕ ((Int32))) :=
  (gI M 12 x0 12).bind fun v1 =>
  (if v1 ≤ x3 then
    some (.inr x2)
  else
    (ob M 12 x0).bind fun _ => (f_X12_hears M x0 x3 x1).bind fun v3 =>
    (if v3 = 0 then
      some (.inl ((x2 + (0 : Int32)), (x3 + (1 : Int32))))
    else
      some (.inl ((x2 + (1 : Int32)), (x3 + (1 : Int32))))))
def f_X12_heardBy_L4 (M : Mem) (x0 : Nat) (x1 : Int32) (x2 : Int32) (x3 : Int32) : Option ((Int32)) := iter (fun s : Int32 × Int32 => f_X12_heardBy_B4 M x0 x1 s.1 s.2) 1048576 (x2, x3)
set_option maxRecDepth 20000 in
theorem B_X12_heardBy_4 {l : Launch} {G : Gv} {lim : Nat × Nat} (M : Mem) (x0 : Nat) (x1 : Int32) (x2 : Int32) (x3 : Int32) (K : (Int32 × Int32) ⊕ ((Int32)) → Option (Option Value × Mem)) (kk1 : ∀ (s2 : Int32) (s3 : Int32), SimR l G Y_X12_heardBy lim (K (.inl (s2, s3))) 4 [some (.inr (.inr x0)), some (.inl x1), some (.inl s2), some (.inl s3)] [] M) (kk2_0 : ∀ (s2 : Int32), SimR l G Y_X12_heardBy lim (K (.inr s2)) 35 [none, none, some (.inl s2), none] [] M) : Sim l G Y_X12_heardBy lim (f_X12_heardBy_B4 M x0 x1 x2 x3) K 4 [some (.inr (.inr x0)), some (.inl x1), some (.inl x2), some (.inl x3)] [] M := by
  unfold f_X12_heardBy_B4
  refine s_run (b := [(.iload_n 3, 1), (.aload_n 0, 1)]) 6 [some (.inr (.inr x0)), some (.inl x1), some (.inl x2), some (.inl x3)] [.inr (.inr x0), .inl x3] (by decide +kernel) rfl ?_
  refine s_gI fl_12_162 rfl (by decide +kernel) (fun v1 => ?_)
  refine s_ic_ge (tgt := 35) (off := 26) (by decide +kernel) (by decide) (fun h2 => ?_) (fun h2 => ?_)
  · skip
    exact s_lsub (ls' := [none, none, some (.inl x2), none]) ⟨rfl, trivial⟩ (kk2_0 x2)
  · skip
    refine s_run (b := [(.iload_n 2, 1), (.aload_n 0, 1), (.iload_n 3, 1), (.iload_n 1, 1)]) 16 [some (.inr (.inr x0)), some (.inl x1), some (.inl x2), some (.inl x3)] [.inl x1, .inl x3, .inr (.inr x0), .inl x2] (by decide +kernel) rfl ?_
    refine s_cV (Z := Y_X12_hears) (c := 12) (vs := [.inl x3, .inl x1]) (st := [.inl x2]) (rO := fun z => some (.inl z)) (mO := fun _ => M) zk_X12_hears zi_X12_hears q1609 rfl ⟨by decide, by decide⟩ ⟨rfl, rfl⟩ rfl rfl (Nat.le_of_ble_eq_true rfl) (by decide +kernel) (fun z hz => c_X12_hears hz) (fun v3 => ?_)
    change Sim l G Y_X12_heardBy lim _ _ 19 [some (.inr (.inr x0)), some (.inl x1), some (.inl x2), some (.inl x3)] [.inl v3, .inl x2] M
    refine s_if_eq (tgt := 26) (off := 7) (by decide +kernel) (by decide) (fun h4 => ?_) (fun h4 => ?_)
    · skip
      refine s_run (b := [(.iconst 0, 1), (.iadd, 1), (.istore_n 2, 1), (.iinc 3 1, 3), (.goto (-28), 3)]) 4 [some (.inr (.inr x0)), some (.inl x1), some (.inl (x2 + (0 : Int32))), some (.inl (x3 + (1 : Int32)))] [] (by decide +kernel) rfl ?_
      exact s_lsub (ls' := [some (.inr (.inr x0)), some (.inl x1), some (.inl (x2 + (0 : Int32))), some (.inl (x3 + (1 : Int32)))]) ⟨rfl, ⟨rfl, ⟨rfl, ⟨rfl, trivial⟩⟩⟩⟩ (kk1 (x2 + (0 : Int32)) (x3 + (1 : Int32)))
    · skip
      refine s_run (b := [(.iconst 1, 1), (.goto 4, 3), (.iadd, 1), (.istore_n 2, 1), (.iinc 3 1, 3), (.goto (-28), 3)]) 4 [some (.inr (.inr x0)), some (.inl x1), some (.inl (x2 + (1 : Int32))), some (.inl (x3 + (1 : Int32)))] [] (by decide +kernel) rfl ?_
      exact s_lsub (ls' := [some (.inr (.inr x0)), some (.inl x1), some (.inl (x2 + (1 : Int32))), some (.inl (x3 + (1 : Int32)))]) ⟨rfl, ⟨rfl, ⟨rfl, ⟨rfl, trivial⟩⟩⟩⟩ (kk1 (x2 + (1 : Int32)) (x3 + (1 : Int32)))
set_option maxRecDepth 20000 in
theorem L_X12_heardBy_4 {l : Launch} {G : Gv} {lim : Nat × Nat} (M : Mem) (x0 : Nat) (x1 : Int32) (x2 : Int32) (x3 : Int32) (K : ((Int32)) → Option (Option Value × Mem)) (kk2_0 : ∀ r : Int32, SimR l G Y_X12_heardBy lim (K r) 35 [none, none, some (.inl r), none] [] M) : Sim l G Y_X12_heardBy lim (f_X12_heardBy_L4 M x0 x1 x2 x3) K 4 [some (.inr (.inr x0)), some (.inl x1), some (.inl x2), some (.inl x3)] [] M :=
  s_iter (f := fun s : Int32 × Int32 => f_X12_heardBy_B4 M x0 x1 s.1 s.2) (hd := 4) (cl := fun s => [some (.inr (.inr x0)), some (.inl x1), some (.inl s.1), some (.inl s.2)]) (cm := fun s => M) (xp := fun _ => 35) (xl := fun r => [none, none, some (.inl r), none]) (xm := fun r => M) (fun s K h1 h2 => B_X12_heardBy_4 M x0 x1 s.1 s.2 K (fun a2 a3 => h1 (a2, a3)) (fun a2 => h2 a2)) 1048576 (x2, x3) K kk2_0
def f_X12_heardBy (M : Mem) (x0 : Nat) (x1 : Int32) : Option (Int32) :=
  (f_X12_heardBy_L4 M x0 x1 (0 : Int32) (0 : Int32)).bind fun r1 =>
  some r1
set_option maxRecDepth 20000 in
theorem S_X12_heardBy {l : Launch} {G : Gv} {lim : Nat × Nat} (M : Mem) (x0 : Nat) (x1 : Int32) : Sim l G Y_X12_heardBy lim (f_X12_heardBy M x0 x1) (fun z => some (some (.int z), M)) 0 [some (.inr (.inr x0)), some (.inl x1), none, none] [] M := by
  unfold f_X12_heardBy
  refine s_run (b := [(.iconst 0, 1), (.istore_n 2, 1), (.iconst 0, 1), (.istore_n 3, 1)]) 4 [some (.inr (.inr x0)), some (.inl x1), some (.inl (0 : Int32)), some (.inl (0 : Int32))] [] (by decide +kernel) rfl ?_
  refine s_lsub (ls' := [some (.inr (.inr x0)), some (.inl x1), some (.inl (0 : Int32)), some (.inl (0 : Int32))]) ⟨rfl, ⟨rfl, ⟨rfl, ⟨rfl, trivial⟩⟩⟩⟩ ?_
  refine sim_bind (L_X12_heardBy_4 M x0 x1 (0 : Int32) (0 : Int32) _ (fun r1 => ?_))
  change Sim l G Y_X12_heardBy lim _ _ 35 [none, none, some (.inl r1), none] [] M
  refine s_run (b := [(.iload_n 2, 1)]) 36 [none, none, some (.inl r1), none] [.inl r1] (by decide +kernel) rfl ?_
  exact s_iret (by decide +kernel) rfl
set_option maxRecDepth 20000 in
theorem c_X12_heardBy {l : Launch} {G : Gv} {M : Mem} {x0 : Nat} {x1 : Int32} {z : Int32} (h : f_X12_heardBy M x0 x1 = some z) : MetS l G Y_X12_heardBy [.inr (.inr x0), .inl x1] M (some (.int z)) M :=
  met_of (ls0 := [some (.inr (.inr x0)), some (.inl x1), none, none]) (by decide) rfl (lv_in (m := 2) rfl) (sl_le (Nat.le_of_ble_eq_true rfl)) (by rw [h]; rfl) (Or.inl ⟨rfl, rfl⟩) (S_X12_heardBy M x0 x1)
def f_X12_loud_B22 (M : Mem) (x0 : Nat) (x2 : Int32) (x3 : Int32) (x4 : Int32) : Option ((Int32 × Int32) ⊕ ((Int32))) :=
  (gI M 12 x0 12).bind fun v1 =>
  (if v1 ≤ x4 then
    some (.inr x3)
  else
    (ob M 12 x0).bind fun _ => (f_X12_heardBy M x0 x4).bind fun v3 =>
    (ob M 12 x0).bind fun _ => (f_X12_heardBy M x0 x3).bind fun v4 =>
    (if v3 ≤ v4 then
      some (.inl (x3, (x4 + (1 : Int32))))
    else
      some (.inl (x4, (x4 + (1 : Int32))))))
def f_X12_loud_L22 (M : Mem) (x0 : Nat) (x2 : Int32) (x3 : Int32) (x4 : Int32) : Option ((Int32)) := iter (fun s : Int32 × Int32 => f_X12_loud_B22 M x0 x2 s.1 s.2) 1048576 (x3, x4)
set_option maxRecDepth 20000 in
theorem B_X12_loud_22 {l : Launch} {G : Gv} {lim : Nat × Nat} (M : Mem) (x0 : Nat) (x2 : Int32) (x3 : Int32) (x4 : Int32) (K : (Int32 × Int32) ⊕ ((Int32)) → Option (Option Value × Mem)) (kk1 : ∀ (s3 : Int32) (s4 : Int32), SimR l G Y_X12_loud lim (K (.inl (s3, s4))) 22 [some (.inr (.inr x0)), none, some (.inl x2), some (.inl s3), some (.inl s4)] [] M) (kk2_0 : ∀ (s3 : Int32), SimR l G Y_X12_loud lim (K (.inr s3)) 58 [some (.inr (.inr x0)), none, some (.inl x2), some (.inl s3), none] [] M) : Sim l G Y_X12_loud lim (f_X12_loud_B22 M x0 x2 x3 x4) K 22 [some (.inr (.inr x0)), none, some (.inl x2), some (.inl x3), some (.inl x4)] [] M := by
  unfold f_X12_loud_B22
  refine s_run (b := [(.iload 4, 2), (.aload_n 0, 1)]) 25 [some (.inr (.inr x0)), none, some (.inl x2), some (.inl x3), some (.inl x4)] [.inr (.inr x0), .inl x4] (by decide +kernel) rfl ?_
  refine s_gI fl_12_162 rfl (by decide +kernel) (fun v1 => ?_)
  refine s_ic_ge (tgt := 58) (off := 30) (by decide +kernel) (by decide) (fun h2 => ?_) (fun h2 => ?_)
  · skip
    exact s_lsub (ls' := [some (.inr (.inr x0)), none, some (.inl x2), some (.inl x3), none]) ⟨rfl, ⟨rfl, ⟨rfl, trivial⟩⟩⟩ (kk2_0 x3)
  · skip
    refine s_run (b := [(.aload_n 0, 1), (.iload 4, 2)]) 34 [some (.inr (.inr x0)), none, some (.inl x2), some (.inl x3), some (.inl x4)] [.inl x4, .inr (.inr x0)] (by decide +kernel) rfl ?_
    refine s_cV (Z := Y_X12_heardBy) (c := 12) (vs := [.inl x4]) (st := []) (rO := fun z => some (.inl z)) (mO := fun _ => M) zk_X12_heardBy zi_X12_heardBy q1906 rfl ⟨by decide, by decide⟩ ⟨rfl, rfl⟩ rfl rfl (Nat.le_of_ble_eq_true rfl) (by decide +kernel) (fun z hz => c_X12_heardBy hz) (fun v3 => ?_)
    change Sim l G Y_X12_loud lim _ _ 37 [some (.inr (.inr x0)), none, some (.inl x2), some (.inl x3), some (.inl x4)] [.inl v3] M
    refine s_run (b := [(.aload_n 0, 1), (.iload_n 3, 1)]) 39 [some (.inr (.inr x0)), none, some (.inl x2), some (.inl x3), some (.inl x4)] [.inl x3, .inr (.inr x0), .inl v3] (by decide +kernel) rfl ?_
    refine s_cV (Z := Y_X12_heardBy) (c := 12) (vs := [.inl x3]) (st := [.inl v3]) (rO := fun z => some (.inl z)) (mO := fun _ => M) zk_X12_heardBy zi_X12_heardBy q1906 rfl ⟨by decide, by decide⟩ ⟨rfl, rfl⟩ rfl rfl (Nat.le_of_ble_eq_true rfl) (by decide +kernel) (fun z hz => c_X12_heardBy hz) (fun v4 => ?_)
    change Sim l G Y_X12_loud lim _ _ 42 [some (.inr (.inr x0)), none, some (.inl x2), some (.inl x3), some (.inl x4)] [.inl v4, .inl v3] M
    refine s_ic_le (tgt := 50) (off := 8) (by decide +kernel) (by decide) (fun h5 => ?_) (fun h5 => ?_)
    · skip
      refine s_run (b := [(.iload_n 3, 1), (.istore_n 3, 1), (.iinc 4 1, 3), (.goto (-33), 3)]) 22 [some (.inr (.inr x0)), none, some (.inl x2), some (.inl x3), some (.inl (x4 + (1 : Int32)))] [] (by decide +kernel) rfl ?_
      exact s_lsub (ls' := [some (.inr (.inr x0)), none, some (.inl x2), some (.inl x3), some (.inl (x4 + (1 : Int32)))]) ⟨rfl, ⟨rfl, ⟨rfl, ⟨rfl, trivial⟩⟩⟩⟩ (kk1 x3 (x4 + (1 : Int32)))
    · skip
      refine s_run (b := [(.iload 4, 2), (.goto 4, 3), (.istore_n 3, 1), (.iinc 4 1, 3), (.goto (-33), 3)]) 22 [some (.inr (.inr x0)), none, some (.inl x2), some (.inl x4), some (.inl (x4 + (1 : Int32)))] [] (by decide +kernel) rfl ?_
      exact s_lsub (ls' := [some (.inr (.inr x0)), none, some (.inl x2), some (.inl x4), some (.inl (x4 + (1 : Int32)))]) ⟨rfl, ⟨rfl, ⟨rfl, ⟨rfl, trivial⟩⟩⟩⟩ (kk1 x4 (x4 + (1 : Int32)))
set_option maxRecDepth 20000 in
theorem L_X12_loud_22 {l : Launch} {G : Gv} {lim : Nat × Nat} (M : Mem) (x0 : Nat) (x2 : Int32) (x3 : Int32) (x4 : Int32) (K : ((Int32)) → Option (Option Value × Mem)) (kk2_0 : ∀ r : Int32, SimR l G Y_X12_loud lim (K r) 58 [some (.inr (.inr x0)), none, some (.inl x2), some (.inl r), none] [] M) : Sim l G Y_X12_loud lim (f_X12_loud_L22 M x0 x2 x3 x4) K 22 [some (.inr (.inr x0)), none, some (.inl x2), some (.inl x3), some (.inl x4)] [] M :=
  s_iter (f := fun s : Int32 × Int32 => f_X12_loud_B22 M x0 x2 s.1 s.2) (hd := 22) (cl := fun s => [some (.inr (.inr x0)), none, some (.inl x2), some (.inl s.1), some (.inl s.2)]) (cm := fun s => M) (xp := fun _ => 58) (xl := fun r => [some (.inr (.inr x0)), none, some (.inl x2), some (.inl r), none]) (xm := fun r => M) (fun s K h1 h2 => B_X12_loud_22 M x0 x2 s.1 s.2 K (fun a3 a4 => h1 (a3, a4)) (fun a3 => h2 a3)) 1048576 (x3, x4) K kk2_0
def f_X12_loud (M : Mem) (x0 : Nat) (x1 : Int32) (x2 : Int32) : Option (Int32 × Mem) :=
  (ob M 12 x0).bind fun _ => (f_X12_isOffice M x0 x1).bind fun z1 =>
  (if z1.1 = 0 then
    some ((-1 : Int32), z1.2)
  else
    (gI z1.2 12 x0 12).bind fun v3 =>
    (if v3 = 0 then
      some ((-1 : Int32), z1.2)
    else
      (f_X12_loud_L22 z1.2 x0 x2 (0 : Int32) (1 : Int32)).bind fun r5 =>
      (if x2 = 0 then
        some (r5, z1.2)
      else
        (ob z1.2 12 x0).bind fun _ => (f_X12_heardBy z1.2 x0 r5).bind fun v7 =>
        some (v7, z1.2))))
set_option maxRecDepth 20000 in
theorem S_X12_loud {l : Launch} {G : Gv} {lim : Nat × Nat} (M : Mem) (x0 : Nat) (x1 : Int32) (x2 : Int32) : Sim l G Y_X12_loud lim (f_X12_loud M x0 x1 x2) (fun z => some (some (.int z.1), z.2)) 0 [some (.inr (.inr x0)), some (.inl x1), some (.inl x2), none, none] [] M := by
  unfold f_X12_loud
  refine s_run (b := [(.aload_n 0, 1), (.iload_n 1, 1)]) 2 [some (.inr (.inr x0)), some (.inl x1), some (.inl x2), none, none] [.inl x1, .inr (.inr x0)] (by decide +kernel) rfl ?_
  refine s_cV (Z := Y_X12_isOffice) (c := 12) (vs := [.inl x1]) (st := []) (rO := fun z => some (.inl z.1)) (mO := fun z => z.2) zk_X12_isOffice zi_X12_isOffice q1550 rfl ⟨by decide, by decide⟩ ⟨rfl, rfl⟩ rfl rfl (Nat.le_of_ble_eq_true rfl) (by decide +kernel) (fun z hz => c_X12_isOffice hz) (fun z1 => ?_)
  change Sim l G Y_X12_loud lim _ _ 5 [some (.inr (.inr x0)), some (.inl x1), some (.inl x2), none, none] [.inl z1.1] z1.2
  refine s_if_eq (tgt := 15) (off := 10) (by decide +kernel) (by decide) (fun h2 => ?_) (fun h2 => ?_)
  · skip
    refine s_run (b := [(.iconst (-1), 1)]) 16 [some (.inr (.inr x0)), some (.inl x1), some (.inl x2), none, none] [.inl (-1 : Int32)] (by decide +kernel) rfl ?_
    exact s_iret (by decide +kernel) rfl
  · skip
    refine s_run (b := [(.aload_n 0, 1)]) 9 [some (.inr (.inr x0)), some (.inl x1), some (.inl x2), none, none] [.inr (.inr x0)] (by decide +kernel) rfl ?_
    refine s_gI fl_12_162 rfl (by decide +kernel) (fun v3 => ?_)
    refine s_if_ne (tgt := 17) (off := 5) (by decide +kernel) (by decide) (fun h4 => ?_) (fun h4 => ?_)
    · skip
      refine s_run (b := [(.iconst (-1), 1)]) 16 [some (.inr (.inr x0)), some (.inl x1), some (.inl x2), none, none] [.inl (-1 : Int32)] (by decide +kernel) rfl ?_
      exact s_iret (by decide +kernel) rfl
    · skip
      refine s_run (b := [(.iconst 0, 1), (.istore_n 3, 1), (.iconst 1, 1), (.istore 4, 2)]) 22 [some (.inr (.inr x0)), some (.inl x1), some (.inl x2), some (.inl (0 : Int32)), some (.inl (1 : Int32))] [] (by decide +kernel) rfl ?_
      refine s_lsub (ls' := [some (.inr (.inr x0)), none, some (.inl x2), some (.inl (0 : Int32)), some (.inl (1 : Int32))]) ⟨rfl, ⟨rfl, ⟨rfl, ⟨rfl, trivial⟩⟩⟩⟩ ?_
      refine sim_bind (L_X12_loud_22 z1.2 x0 x2 (0 : Int32) (1 : Int32) _ (fun r5 => ?_))
      change Sim l G Y_X12_loud lim _ _ 58 [some (.inr (.inr x0)), none, some (.inl x2), some (.inl r5), none] [] z1.2
      refine s_run (b := [(.iload_n 2, 1)]) 59 [some (.inr (.inr x0)), none, some (.inl x2), some (.inl r5), none] [.inl x2] (by decide +kernel) rfl ?_
      refine s_if_eq (tgt := 70) (off := 11) (by decide +kernel) (by decide) (fun h6 => ?_) (fun h6 => ?_)
      · skip
        refine s_run (b := [(.iload_n 3, 1)]) 71 [some (.inr (.inr x0)), none, some (.inl x2), some (.inl r5), none] [.inl r5] (by decide +kernel) rfl ?_
        exact s_iret (by decide +kernel) rfl
      · skip
        refine s_run (b := [(.aload_n 0, 1), (.iload_n 3, 1)]) 64 [some (.inr (.inr x0)), none, some (.inl x2), some (.inl r5), none] [.inl r5, .inr (.inr x0)] (by decide +kernel) rfl ?_
        refine s_cV (Z := Y_X12_heardBy) (c := 12) (vs := [.inl r5]) (st := []) (rO := fun z => some (.inl z)) (mO := fun _ => z1.2) zk_X12_heardBy zi_X12_heardBy q1906 rfl ⟨by decide, by decide⟩ ⟨rfl, rfl⟩ rfl rfl (Nat.le_of_ble_eq_true rfl) (by decide +kernel) (fun z hz => c_X12_heardBy hz) (fun v7 => ?_)
        change Sim l G Y_X12_loud lim _ _ 67 [some (.inr (.inr x0)), none, some (.inl x2), some (.inl r5), none] [.inl v7] z1.2
        refine s_run (b := [(.goto 4, 3)]) 71 [some (.inr (.inr x0)), none, some (.inl x2), some (.inl r5), none] [.inl v7] (by decide +kernel) rfl ?_
        exact s_iret (by decide +kernel) rfl
set_option maxRecDepth 20000 in
theorem c_X12_loud {l : Launch} {G : Gv} {M : Mem} {x0 : Nat} {x1 : Int32} {x2 : Int32} {z : Int32 × Mem} (h : f_X12_loud M x0 x1 x2 = some z) : MetS l G Y_X12_loud [.inr (.inr x0), .inl x1, .inl x2] M (some (.int z.1)) z.2 :=
  met_of (ls0 := [some (.inr (.inr x0)), some (.inl x1), some (.inl x2), none, none]) (by decide) rfl (lv_in (m := 2) rfl) (sl_le (Nat.le_of_ble_eq_true rfl)) (by rw [h]; rfl) (Or.inl ⟨rfl, rfl⟩) (S_X12_loud M x0 x1 x2)
def f_X12_gotOf (M : Mem) (x0 : Nat) (x1 : Int32) (x2 : Int32) : Option (Int32 × Mem) :=
  (ob M 12 x0).bind fun _ => (f_X12_ofCall M x0 x1 (0 : Int32)).bind fun v1 =>
  (ob M 12 x0).bind fun _ => (f_X12_rings M x0 v1 x2).bind fun z2 =>
  (ob z2 12 x0).bind fun _ => (f_X12_isLifted z2 x0 x1).bind fun v3 =>
  (if v3 = 0 then
    some ((0 : Int32), z2)
  else
    (ob z2 12 x0).bind fun _ => (f_X12_ofCall z2 x0 x1 (1 : Int32)).bind fun v5 =>
    (gI z2 12 x0 17).bind fun v6 =>
    (ob z2 12 x0).bind fun _ => (f_X12_gotBy z2 x0 v5 v6).bind fun v7 =>
    some (v7, z2))
set_option maxRecDepth 20000 in
theorem S_X12_gotOf {l : Launch} {G : Gv} {lim : Nat × Nat} (M : Mem) (x0 : Nat) (x1 : Int32) (x2 : Int32) : Sim l G Y_X12_gotOf lim (f_X12_gotOf M x0 x1 x2) (fun z => some (some (.int z.1), z.2)) 0 [some (.inr (.inr x0)), some (.inl x1), some (.inl x2)] [] M := by
  unfold f_X12_gotOf
  refine s_run (b := [(.aload_n 0, 1), (.aload_n 0, 1), (.iload_n 1, 1), (.iconst 0, 1)]) 4 [some (.inr (.inr x0)), some (.inl x1), some (.inl x2)] [.inl (0 : Int32), .inl x1, .inr (.inr x0), .inr (.inr x0)] (by decide +kernel) rfl ?_
  refine s_cV (Z := Y_X12_ofCall) (c := 12) (vs := [.inl x1, .inl (0 : Int32)]) (st := [.inr (.inr x0)]) (rO := fun z => some (.inl z)) (mO := fun _ => M) zk_X12_ofCall zi_X12_ofCall q1566 rfl ⟨by decide, by decide⟩ ⟨rfl, rfl⟩ rfl rfl (Nat.le_of_ble_eq_true rfl) (by decide +kernel) (fun z hz => c_X12_ofCall hz) (fun v1 => ?_)
  change Sim l G Y_X12_gotOf lim _ _ 7 [some (.inr (.inr x0)), some (.inl x1), some (.inl x2)] [.inl v1, .inr (.inr x0)] M
  refine s_run (b := [(.iload_n 2, 1)]) 8 [some (.inr (.inr x0)), some (.inl x1), some (.inl x2)] [.inl x2, .inl v1, .inr (.inr x0)] (by decide +kernel) rfl ?_
  refine s_cV (Z := Y_X12_rings) (c := 12) (vs := [.inl v1, .inl x2]) (st := []) (rO := fun _ => none) (mO := fun z => z) zk_X12_rings zi_X12_rings q1605 rfl ⟨by decide, by decide⟩ ⟨rfl, rfl⟩ rfl rfl (Nat.le_of_ble_eq_true rfl) (by decide +kernel) (fun z hz => c_X12_rings hz) (fun z2 => ?_)
  change Sim l G Y_X12_gotOf lim _ _ 11 [some (.inr (.inr x0)), some (.inl x1), some (.inl x2)] [] z2
  refine s_run (b := [(.aload_n 0, 1), (.iload_n 1, 1)]) 13 [some (.inr (.inr x0)), some (.inl x1), some (.inl x2)] [.inl x1, .inr (.inr x0)] (by decide +kernel) rfl ?_
  refine s_cV (Z := Y_X12_isLifted) (c := 12) (vs := [.inl x1]) (st := []) (rO := fun z => some (.inl z)) (mO := fun _ => z2) zk_X12_isLifted zi_X12_isLifted q1625 rfl ⟨by decide, by decide⟩ ⟨rfl, rfl⟩ rfl rfl (Nat.le_of_ble_eq_true rfl) (by decide +kernel) (fun z hz => c_X12_isLifted hz) (fun v3 => ?_)
  change Sim l G Y_X12_gotOf lim _ _ 16 [some (.inr (.inr x0)), some (.inl x1), some (.inl x2)] [.inl v3] z2
  refine s_if_eq (tgt := 36) (off := 20) (by decide +kernel) (by decide) (fun h4 => ?_) (fun h4 => ?_)
  · skip
    refine s_run (b := [(.iconst 0, 1)]) 37 [some (.inr (.inr x0)), some (.inl x1), some (.inl x2)] [.inl (0 : Int32)] (by decide +kernel) rfl ?_
    exact s_iret (by decide +kernel) rfl
  · skip
    refine s_run (b := [(.aload_n 0, 1), (.aload_n 0, 1), (.iload_n 1, 1), (.iconst 1, 1)]) 23 [some (.inr (.inr x0)), some (.inl x1), some (.inl x2)] [.inl (1 : Int32), .inl x1, .inr (.inr x0), .inr (.inr x0)] (by decide +kernel) rfl ?_
    refine s_cV (Z := Y_X12_ofCall) (c := 12) (vs := [.inl x1, .inl (1 : Int32)]) (st := [.inr (.inr x0)]) (rO := fun z => some (.inl z)) (mO := fun _ => z2) zk_X12_ofCall zi_X12_ofCall q1566 rfl ⟨by decide, by decide⟩ ⟨rfl, rfl⟩ rfl rfl (Nat.le_of_ble_eq_true rfl) (by decide +kernel) (fun z hz => c_X12_ofCall hz) (fun v5 => ?_)
    change Sim l G Y_X12_gotOf lim _ _ 26 [some (.inr (.inr x0)), some (.inl x1), some (.inl x2)] [.inl v5, .inr (.inr x0)] z2
    refine s_run (b := [(.aload_n 0, 1)]) 27 [some (.inr (.inr x0)), some (.inl x1), some (.inl x2)] [.inr (.inr x0), .inl v5, .inr (.inr x0)] (by decide +kernel) rfl ?_
    refine s_gI fl_12_198 rfl (by decide +kernel) (fun v6 => ?_)
    refine s_cV (Z := Y_X12_gotBy) (c := 12) (vs := [.inl v5, .inl v6]) (st := []) (rO := fun z => some (.inl z)) (mO := fun _ => z2) zk_X12_gotBy zi_X12_gotBy q1629 rfl ⟨by decide, by decide⟩ ⟨rfl, rfl⟩ rfl rfl (Nat.le_of_ble_eq_true rfl) (by decide +kernel) (fun z hz => c_X12_gotBy hz) (fun v7 => ?_)
    change Sim l G Y_X12_gotOf lim _ _ 33 [some (.inr (.inr x0)), some (.inl x1), some (.inl x2)] [.inl v7] z2
    refine s_run (b := [(.goto 4, 3)]) 37 [some (.inr (.inr x0)), some (.inl x1), some (.inl x2)] [.inl v7] (by decide +kernel) rfl ?_
    exact s_iret (by decide +kernel) rfl
set_option maxRecDepth 20000 in
theorem c_X12_gotOf {l : Launch} {G : Gv} {M : Mem} {x0 : Nat} {x1 : Int32} {x2 : Int32} {z : Int32 × Mem} (h : f_X12_gotOf M x0 x1 x2 = some z) : MetS l G Y_X12_gotOf [.inr (.inr x0), .inl x1, .inl x2] M (some (.int z.1)) z.2 :=
  met_of (ls0 := [some (.inr (.inr x0)), some (.inl x1), some (.inl x2)]) (by decide) rfl (lv_in (m := 0) rfl) (sl_le (Nat.le_of_ble_eq_true rfl)) (by rw [h]; rfl) (Or.inl ⟨rfl, rfl⟩) (S_X12_gotOf M x0 x1 x2)
def f_X12_lunch_B64 (M : Mem) (x0 : Nat) (x2 : Int32) (x3 : Int32) (x4 : Int32) (x5 : Int32) (x6 : Int32) (x7 : Int32) (x8 : Int32) : Option ((Int32 × Int32 × Mem) ⊕ ((Int32 × Mem))) :=
  (gI M 12 x0 13).bind fun v1 =>
  (if v1 ≤ x8 then
    some (.inr (x7, M))
  else
    (gI M 12 x0 12).bind fun v3 =>
    (ob M 12 x0).bind fun _ => (f_X12_gotOf M x0 x8 ((((1 : Int32) <<< (v3 &&& 31)) - (1 : Int32)) &&& (x6 ^^^ (-1 : Int32)))).bind fun z4 =>
    some (.inl ((x7 + z4.1), (x8 + (1 : Int32)), z4.2)))
def f_X12_lunch_L64 (M : Mem) (x0 : Nat) (x2 : Int32) (x3 : Int32) (x4 : Int32) (x5 : Int32) (x6 : Int32) (x7 : Int32) (x8 : Int32) : Option ((Int32 × Mem)) := iter (fun s : Int32 × Int32 × Mem => f_X12_lunch_B64 s.2.2 x0 x2 x3 x4 x5 x6 s.1 s.2.1) 1048576 (x7, x8, M)
set_option maxRecDepth 20000 in
theorem B_X12_lunch_64 {l : Launch} {G : Gv} {lim : Nat × Nat} (M : Mem) (x0 : Nat) (x2 : Int32) (x3 : Int32) (x4 : Int32) (x5 : Int32) (x6 : Int32) (x7 : Int32) (x8 : Int32) (K : (Int32 × Int32 × Mem) ⊕ ((Int32 × Mem)) → Option (Option Value × Mem)) (kk1 : ∀ (s7 : Int32) (s8 : Int32) (s_ : Mem), SimR l G Y_X12_lunch lim (K (.inl (s7, s8, s_))) 64 [some (.inr (.inr x0)), none, some (.inl x2), some (.inl x3), some (.inl x4), some (.inl x5), some (.inl x6), some (.inl s7), some (.inl s8)] [] s_) (kk2_0 : ∀ (s7 : Int32) (s_ : Mem), SimR l G Y_X12_lunch lim (K (.inr (s7, s_))) 103 [some (.inr (.inr x0)), none, some (.inl x2), some (.inl x3), some (.inl x4), some (.inl x5), some (.inl x6), some (.inl s7), none] [] s_) : Sim l G Y_X12_lunch lim (f_X12_lunch_B64 M x0 x2 x3 x4 x5 x6 x7 x8) K 64 [some (.inr (.inr x0)), none, some (.inl x2), some (.inl x3), some (.inl x4), some (.inl x5), some (.inl x6), some (.inl x7), some (.inl x8)] [] M := by
  unfold f_X12_lunch_B64
  refine s_run (b := [(.iload 8, 2), (.aload_n 0, 1)]) 67 [some (.inr (.inr x0)), none, some (.inl x2), some (.inl x3), some (.inl x4), some (.inl x5), some (.inl x6), some (.inl x7), some (.inl x8)] [.inr (.inr x0), .inl x8] (by decide +kernel) rfl ?_
  refine s_gI fl_12_165 rfl (by decide +kernel) (fun v1 => ?_)
  refine s_ic_ge (tgt := 103) (off := 33) (by decide +kernel) (by decide) (fun h2 => ?_) (fun h2 => ?_)
  · skip
    exact s_lsub (ls' := [some (.inr (.inr x0)), none, some (.inl x2), some (.inl x3), some (.inl x4), some (.inl x5), some (.inl x6), some (.inl x7), none]) ⟨rfl, ⟨rfl, ⟨rfl, ⟨rfl, ⟨rfl, ⟨rfl, ⟨rfl, trivial⟩⟩⟩⟩⟩⟩⟩ (kk2_0 x7 M)
  · skip
    refine s_run (b := [(.iload 7, 2), (.aload_n 0, 1), (.iload 8, 2), (.iconst 1, 1), (.aload_n 0, 1)]) 80 [some (.inr (.inr x0)), none, some (.inl x2), some (.inl x3), some (.inl x4), some (.inl x5), some (.inl x6), some (.inl x7), some (.inl x8)] [.inr (.inr x0), .inl (1 : Int32), .inl x8, .inr (.inr x0), .inl x7] (by decide +kernel) rfl ?_
    refine s_gI fl_12_162 rfl (by decide +kernel) (fun v3 => ?_)
    refine s_run (b := [(.ishl, 1), (.iconst 1, 1), (.isub, 1), (.iload 6, 2), (.iconst (-1), 1), (.ixor, 1), (.iand, 1)]) 91 [some (.inr (.inr x0)), none, some (.inl x2), some (.inl x3), some (.inl x4), some (.inl x5), some (.inl x6), some (.inl x7), some (.inl x8)] [.inl ((((1 : Int32) <<< (v3 &&& 31)) - (1 : Int32)) &&& (x6 ^^^ (-1 : Int32))), .inl x8, .inr (.inr x0), .inl x7] (by decide +kernel) rfl ?_
    refine s_cV (Z := Y_X12_gotOf) (c := 12) (vs := [.inl x8, .inl ((((1 : Int32) <<< (v3 &&& 31)) - (1 : Int32)) &&& (x6 ^^^ (-1 : Int32)))]) (st := [.inl x7]) (rO := fun z => some (.inl z.1)) (mO := fun z => z.2) zk_X12_gotOf zi_X12_gotOf q1775 rfl ⟨by decide, by decide⟩ ⟨rfl, rfl⟩ rfl rfl (Nat.le_of_ble_eq_true rfl) (by decide +kernel) (fun z hz => c_X12_gotOf hz) (fun z4 => ?_)
    change Sim l G Y_X12_lunch lim _ _ 94 [some (.inr (.inr x0)), none, some (.inl x2), some (.inl x3), some (.inl x4), some (.inl x5), some (.inl x6), some (.inl x7), some (.inl x8)] [.inl z4.1, .inl x7] z4.2
    refine s_run (b := [(.iadd, 1), (.istore 7, 2), (.iinc 8 1, 3), (.goto (-36), 3)]) 64 [some (.inr (.inr x0)), none, some (.inl x2), some (.inl x3), some (.inl x4), some (.inl x5), some (.inl x6), some (.inl (x7 + z4.1)), some (.inl (x8 + (1 : Int32)))] [] (by decide +kernel) rfl ?_
    exact s_lsub (ls' := [some (.inr (.inr x0)), none, some (.inl x2), some (.inl x3), some (.inl x4), some (.inl x5), some (.inl x6), some (.inl (x7 + z4.1)), some (.inl (x8 + (1 : Int32)))]) ⟨rfl, ⟨rfl, ⟨rfl, ⟨rfl, ⟨rfl, ⟨rfl, ⟨rfl, ⟨rfl, trivial⟩⟩⟩⟩⟩⟩⟩⟩ (kk1 (x7 + z4.1) (x8 + (1 : Int32)) z4.2)
set_option maxRecDepth 20000 in
theorem L_X12_lunch_64 {l : Launch} {G : Gv} {lim : Nat × Nat} (M : Mem) (x0 : Nat) (x2 : Int32) (x3 : Int32) (x4 : Int32) (x5 : Int32) (x6 : Int32) (x7 : Int32) (x8 : Int32) (K : ((Int32 × Mem)) → Option (Option Value × Mem)) (kk2_0 : ∀ r : Int32 × Mem, SimR l G Y_X12_lunch lim (K r) 103 [some (.inr (.inr x0)), none, some (.inl x2), some (.inl x3), some (.inl x4), some (.inl x5), some (.inl x6), some (.inl r.1), none] [] r.2) : Sim l G Y_X12_lunch lim (f_X12_lunch_L64 M x0 x2 x3 x4 x5 x6 x7 x8) K 64 [some (.inr (.inr x0)), none, some (.inl x2), some (.inl x3), some (.inl x4), some (.inl x5), some (.inl x6), some (.inl x7), some (.inl x8)] [] M :=
  s_iter (f := fun s : Int32 × Int32 × Mem => f_X12_lunch_B64 s.2.2 x0 x2 x3 x4 x5 x6 s.1 s.2.1) (hd := 64) (cl := fun s => [some (.inr (.inr x0)), none, some (.inl x2), some (.inl x3), some (.inl x4), some (.inl x5), some (.inl x6), some (.inl s.1), some (.inl s.2.1)]) (cm := fun s => s.2.2) (xp := fun _ => 103) (xl := fun r => [some (.inr (.inr x0)), none, some (.inl x2), some (.inl x3), some (.inl x4), some (.inl x5), some (.inl x6), some (.inl r.1), none]) (xm := fun r => r.2) (fun s K h1 h2 => B_X12_lunch_64 s.2.2 x0 x2 x3 x4 x5 x6 s.1 s.2.1 K (fun a7 a8 a_ => h1 (a7, a8, a_)) (fun a7 a_ => h2 (a7, a_))) 1048576 (x7, x8, M) K kk2_0
def f_X12_lunch_B35 (M : Mem) (x0 : Nat) (x2 : Int32) (x3 : Int32) (x4 : Int32) (x5 : Int32) (x6 : Int32) : Option ((Int32 × Int32 × Int32 × Mem) ⊕ ((Int32 × Int32 × Mem))) :=
  (gI M 12 x0 12).bind fun v1 =>
  (if ((1 : Int32) <<< (v1 &&& 31)) ≤ x6 then
    some (.inr (x4, x5, M))
  else
    (f_X12_bitsOf M x6).bind fun v3 =>
    (if v3 = x2 then
      (f_X12_lunch_L64 M x0 x2 x3 x4 x5 x6 (0 : Int32) (0 : Int32)).bind fun r5 =>
      (if x4 < r5.1 then
        some (.inl (r5.1, x6, (x6 + (1 : Int32)), r5.2))
      else
        some (.inl (x4, x5, (x6 + (1 : Int32)), r5.2)))
    else
      some (.inl (x4, x5, (x6 + (1 : Int32)), M))))
def f_X12_lunch_L35 (M : Mem) (x0 : Nat) (x2 : Int32) (x3 : Int32) (x4 : Int32) (x5 : Int32) (x6 : Int32) : Option ((Int32 × Int32 × Mem)) := iter (fun s : Int32 × Int32 × Int32 × Mem => f_X12_lunch_B35 s.2.2.2 x0 x2 x3 s.1 s.2.1 s.2.2.1) 1048576 (x4, x5, x6, M)
set_option maxRecDepth 20000 in
theorem B_X12_lunch_35 {l : Launch} {G : Gv} {lim : Nat × Nat} (M : Mem) (x0 : Nat) (x2 : Int32) (x3 : Int32) (x4 : Int32) (x5 : Int32) (x6 : Int32) (K : (Int32 × Int32 × Int32 × Mem) ⊕ ((Int32 × Int32 × Mem)) → Option (Option Value × Mem)) (kk1 : ∀ (s4 : Int32) (s5 : Int32) (s6 : Int32) (s_ : Mem), SimR l G Y_X12_lunch lim (K (.inl (s4, s5, s6, s_))) 35 [some (.inr (.inr x0)), none, some (.inl x2), some (.inl x3), some (.inl s4), some (.inl s5), some (.inl s6), none, none] [] s_) (kk2_0 : ∀ (s4 : Int32) (s5 : Int32) (s_ : Mem), SimR l G Y_X12_lunch lim (K (.inr (s4, s5, s_))) 127 [none, none, none, some (.inl x3), some (.inl s4), some (.inl s5), none, none, none] [] s_) : Sim l G Y_X12_lunch lim (f_X12_lunch_B35 M x0 x2 x3 x4 x5 x6) K 35 [some (.inr (.inr x0)), none, some (.inl x2), some (.inl x3), some (.inl x4), some (.inl x5), some (.inl x6), none, none] [] M := by
  unfold f_X12_lunch_B35
  refine s_run (b := [(.iload 6, 2), (.iconst 1, 1), (.aload_n 0, 1)]) 39 [some (.inr (.inr x0)), none, some (.inl x2), some (.inl x3), some (.inl x4), some (.inl x5), some (.inl x6), none, none] [.inr (.inr x0), .inl (1 : Int32), .inl x6] (by decide +kernel) rfl ?_
  refine s_gI fl_12_162 rfl (by decide +kernel) (fun v1 => ?_)
  refine s_run (b := [(.ishl, 1)]) 43 [some (.inr (.inr x0)), none, some (.inl x2), some (.inl x3), some (.inl x4), some (.inl x5), some (.inl x6), none, none] [.inl ((1 : Int32) <<< (v1 &&& 31)), .inl x6] (by decide +kernel) rfl ?_
  refine s_ic_ge (tgt := 127) (off := 84) (by decide +kernel) (by decide) (fun h2 => ?_) (fun h2 => ?_)
  · skip
    exact s_lsub (ls' := [none, none, none, some (.inl x3), some (.inl x4), some (.inl x5), none, none, none]) ⟨rfl, ⟨rfl, ⟨rfl, trivial⟩⟩⟩ (kk2_0 x4 x5 M)
  · skip
    refine s_run (b := [(.iload 6, 2)]) 48 [some (.inr (.inr x0)), none, some (.inl x2), some (.inl x3), some (.inl x4), some (.inl x5), some (.inl x6), none, none] [.inl x6] (by decide +kernel) rfl ?_
    refine s_cS (Z := Y_X12_bitsOf) (vs := [.inl x6]) (st := []) (rO := fun z => some (.inl z)) (mO := fun _ => M) zk_X12_bitsOf q1650 q1649 ⟨by decide, by decide⟩ ⟨rfl, rfl⟩ rfl rfl (Nat.le_of_ble_eq_true rfl) (by decide +kernel) (fun z hz => c_X12_bitsOf hz) (fun v3 => ?_)
    change Sim l G Y_X12_lunch lim _ _ 51 [some (.inr (.inr x0)), none, some (.inl x2), some (.inl x3), some (.inl x4), some (.inl x5), some (.inl x6), none, none] [.inl v3] M
    refine s_run (b := [(.iload_n 2, 1)]) 52 [some (.inr (.inr x0)), none, some (.inl x2), some (.inl x3), some (.inl x4), some (.inl x5), some (.inl x6), none, none] [.inl x2, .inl v3] (by decide +kernel) rfl ?_
    refine s_ic_eq (tgt := 58) (off := 6) (by decide +kernel) (by decide) (fun h4 => ?_) (fun h4 => ?_)
    · skip
      refine s_run (b := [(.iconst 0, 1), (.istore 7, 2), (.iconst 0, 1), (.istore 8, 2)]) 64 [some (.inr (.inr x0)), none, some (.inl x2), some (.inl x3), some (.inl x4), some (.inl x5), some (.inl x6), some (.inl (0 : Int32)), some (.inl (0 : Int32))] [] (by decide +kernel) rfl ?_
      refine s_lsub (ls' := [some (.inr (.inr x0)), none, some (.inl x2), some (.inl x3), some (.inl x4), some (.inl x5), some (.inl x6), some (.inl (0 : Int32)), some (.inl (0 : Int32))]) ⟨rfl, ⟨rfl, ⟨rfl, ⟨rfl, ⟨rfl, ⟨rfl, ⟨rfl, ⟨rfl, trivial⟩⟩⟩⟩⟩⟩⟩⟩ ?_
      refine sim_bind (L_X12_lunch_64 M x0 x2 x3 x4 x5 x6 (0 : Int32) (0 : Int32) _ (fun r5 => ?_))
      change Sim l G Y_X12_lunch lim _ _ 103 [some (.inr (.inr x0)), none, some (.inl x2), some (.inl x3), some (.inl x4), some (.inl x5), some (.inl x6), some (.inl r5.1), none] [] r5.2
      refine s_run (b := [(.iload 7, 2), (.iload 4, 2)]) 107 [some (.inr (.inr x0)), none, some (.inl x2), some (.inl x3), some (.inl x4), some (.inl x5), some (.inl x6), some (.inl r5.1), none] [.inl x4, .inl r5.1] (by decide +kernel) rfl ?_
      refine s_ic_gt (tgt := 113) (off := 6) (by decide +kernel) (by decide) (fun h6 => ?_) (fun h6 => ?_)
      · skip
        refine s_run (b := [(.iload 7, 2), (.istore 4, 2), (.iload 6, 2), (.istore 5, 2), (.iinc 6 1, 3), (.goto (-89), 3)]) 35 [some (.inr (.inr x0)), none, some (.inl x2), some (.inl x3), some (.inl r5.1), some (.inl x6), some (.inl (x6 + (1 : Int32))), some (.inl r5.1), none] [] (by decide +kernel) rfl ?_
        exact s_lsub (ls' := [some (.inr (.inr x0)), none, some (.inl x2), some (.inl x3), some (.inl r5.1), some (.inl x6), some (.inl (x6 + (1 : Int32))), none, none]) ⟨rfl, ⟨rfl, ⟨rfl, ⟨rfl, ⟨rfl, ⟨rfl, trivial⟩⟩⟩⟩⟩⟩ (kk1 r5.1 x6 (x6 + (1 : Int32)) r5.2)
      · skip
        refine s_run (b := [(.goto 11, 3), (.iinc 6 1, 3), (.goto (-89), 3)]) 35 [some (.inr (.inr x0)), none, some (.inl x2), some (.inl x3), some (.inl x4), some (.inl x5), some (.inl (x6 + (1 : Int32))), some (.inl r5.1), none] [] (by decide +kernel) rfl ?_
        exact s_lsub (ls' := [some (.inr (.inr x0)), none, some (.inl x2), some (.inl x3), some (.inl x4), some (.inl x5), some (.inl (x6 + (1 : Int32))), none, none]) ⟨rfl, ⟨rfl, ⟨rfl, ⟨rfl, ⟨rfl, ⟨rfl, trivial⟩⟩⟩⟩⟩⟩ (kk1 x4 x5 (x6 + (1 : Int32)) r5.2)
    · skip
      refine s_run (b := [(.goto 66, 3), (.iinc 6 1, 3), (.goto (-89), 3)]) 35 [some (.inr (.inr x0)), none, some (.inl x2), some (.inl x3), some (.inl x4), some (.inl x5), some (.inl (x6 + (1 : Int32))), none, none] [] (by decide +kernel) rfl ?_
      exact s_lsub (ls' := [some (.inr (.inr x0)), none, some (.inl x2), some (.inl x3), some (.inl x4), some (.inl x5), some (.inl (x6 + (1 : Int32))), none, none]) ⟨rfl, ⟨rfl, ⟨rfl, ⟨rfl, ⟨rfl, ⟨rfl, trivial⟩⟩⟩⟩⟩⟩ (kk1 x4 x5 (x6 + (1 : Int32)) M)
set_option maxRecDepth 20000 in
theorem L_X12_lunch_35 {l : Launch} {G : Gv} {lim : Nat × Nat} (M : Mem) (x0 : Nat) (x2 : Int32) (x3 : Int32) (x4 : Int32) (x5 : Int32) (x6 : Int32) (K : ((Int32 × Int32 × Mem)) → Option (Option Value × Mem)) (kk2_0 : ∀ r : Int32 × Int32 × Mem, SimR l G Y_X12_lunch lim (K r) 127 [none, none, none, some (.inl x3), some (.inl r.1), some (.inl r.2.1), none, none, none] [] r.2.2) : Sim l G Y_X12_lunch lim (f_X12_lunch_L35 M x0 x2 x3 x4 x5 x6) K 35 [some (.inr (.inr x0)), none, some (.inl x2), some (.inl x3), some (.inl x4), some (.inl x5), some (.inl x6), none, none] [] M :=
  s_iter (f := fun s : Int32 × Int32 × Int32 × Mem => f_X12_lunch_B35 s.2.2.2 x0 x2 x3 s.1 s.2.1 s.2.2.1) (hd := 35) (cl := fun s => [some (.inr (.inr x0)), none, some (.inl x2), some (.inl x3), some (.inl s.1), some (.inl s.2.1), some (.inl s.2.2.1), none, none]) (cm := fun s => s.2.2.2) (xp := fun _ => 127) (xl := fun r => [none, none, none, some (.inl x3), some (.inl r.1), some (.inl r.2.1), none, none, none]) (xm := fun r => r.2.2) (fun s K h1 h2 => B_X12_lunch_35 s.2.2.2 x0 x2 x3 s.1 s.2.1 s.2.2.1 K (fun a4 a5 a6 a_ => h1 (a4, a5, a6, a_)) (fun a4 a5 a_ => h2 (a4, a5, a_))) 1048576 (x4, x5, x6, M) K kk2_0
def f_X12_lunch (M : Mem) (x0 : Nat) (x1 : Int32) (x2 : Int32) (x3 : Int32) : Option (Int32 × Mem) :=
  (ob M 12 x0).bind fun _ => (f_X12_isOffice M x0 x1).bind fun z1 =>
  (if z1.1 = 0 then
    some ((-1 : Int32), z1.2)
  else
    (gI z1.2 12 x0 12).bind fun v3 =>
    (f_X12_isIn z1.2 x2 (0 : Int32) v3).bind fun v4 =>
    (if v4 = 0 then
      some ((-1 : Int32), z1.2)
    else
      (ob z1.2 12 x0).bind fun _ => (f_X12_asTold z1.2 x0).bind fun z6 =>
      (f_X12_lunch_L35 z6 x0 x2 x3 (-1 : Int32) (0 : Int32) (0 : Int32)).bind fun r7 =>
      (if x3 = 0 then
        some (r7.1, r7.2.2)
      else
        some (r7.2.1, r7.2.2))))
set_option maxRecDepth 20000 in
theorem S_X12_lunch {l : Launch} {G : Gv} {lim : Nat × Nat} (M : Mem) (x0 : Nat) (x1 : Int32) (x2 : Int32) (x3 : Int32) : Sim l G Y_X12_lunch lim (f_X12_lunch M x0 x1 x2 x3) (fun z => some (some (.int z.1), z.2)) 0 [some (.inr (.inr x0)), some (.inl x1), some (.inl x2), some (.inl x3), none, none, none, none, none] [] M := by
  unfold f_X12_lunch
  refine s_run (b := [(.aload_n 0, 1), (.iload_n 1, 1)]) 2 [some (.inr (.inr x0)), some (.inl x1), some (.inl x2), some (.inl x3), none, none, none, none, none] [.inl x1, .inr (.inr x0)] (by decide +kernel) rfl ?_
  refine s_cV (Z := Y_X12_isOffice) (c := 12) (vs := [.inl x1]) (st := []) (rO := fun z => some (.inl z.1)) (mO := fun z => z.2) zk_X12_isOffice zi_X12_isOffice q1550 rfl ⟨by decide, by decide⟩ ⟨rfl, rfl⟩ rfl rfl (Nat.le_of_ble_eq_true rfl) (by decide +kernel) (fun z hz => c_X12_isOffice hz) (fun z1 => ?_)
  change Sim l G Y_X12_lunch lim _ _ 5 [some (.inr (.inr x0)), some (.inl x1), some (.inl x2), some (.inl x3), none, none, none, none, none] [.inl z1.1] z1.2
  refine s_if_eq (tgt := 20) (off := 15) (by decide +kernel) (by decide) (fun h2 => ?_) (fun h2 => ?_)
  · skip
    refine s_run (b := [(.iconst (-1), 1)]) 21 [some (.inr (.inr x0)), some (.inl x1), some (.inl x2), some (.inl x3), none, none, none, none, none] [.inl (-1 : Int32)] (by decide +kernel) rfl ?_
    exact s_iret (by decide +kernel) rfl
  · skip
    refine s_run (b := [(.iload_n 2, 1), (.iconst 0, 1), (.aload_n 0, 1)]) 11 [some (.inr (.inr x0)), some (.inl x1), some (.inl x2), some (.inl x3), none, none, none, none, none] [.inr (.inr x0), .inl (0 : Int32), .inl x2] (by decide +kernel) rfl ?_
    refine s_gI fl_12_162 rfl (by decide +kernel) (fun v3 => ?_)
    refine s_cS (Z := Y_X12_isIn) (vs := [.inl x2, .inl (0 : Int32), .inl v3]) (st := []) (rO := fun z => some (.inl z)) (mO := fun _ => z1.2) zk_X12_isIn q1464 q1463 ⟨by decide, by decide⟩ ⟨rfl, rfl⟩ rfl rfl (Nat.le_of_ble_eq_true rfl) (by decide +kernel) (fun z hz => c_X12_isIn hz) (fun v4 => ?_)
    change Sim l G Y_X12_lunch lim _ _ 17 [some (.inr (.inr x0)), some (.inl x1), some (.inl x2), some (.inl x3), none, none, none, none, none] [.inl v4] z1.2
    refine s_if_ne (tgt := 22) (off := 5) (by decide +kernel) (by decide) (fun h5 => ?_) (fun h5 => ?_)
    · skip
      refine s_run (b := [(.iconst (-1), 1)]) 21 [some (.inr (.inr x0)), some (.inl x1), some (.inl x2), some (.inl x3), none, none, none, none, none] [.inl (-1 : Int32)] (by decide +kernel) rfl ?_
      exact s_iret (by decide +kernel) rfl
    · skip
      refine s_run (b := [(.aload_n 0, 1)]) 23 [some (.inr (.inr x0)), some (.inl x1), some (.inl x2), some (.inl x3), none, none, none, none, none] [.inr (.inr x0)] (by decide +kernel) rfl ?_
      refine s_cV (Z := Y_X12_asTold) (c := 12) (vs := []) (st := []) (rO := fun _ => none) (mO := fun z => z) zk_X12_asTold zi_X12_asTold q1590 rfl ⟨by decide, by decide⟩ ⟨rfl, rfl⟩ rfl rfl (Nat.le_of_ble_eq_true rfl) (by decide +kernel) (fun z hz => c_X12_asTold hz) (fun z6 => ?_)
      change Sim l G Y_X12_lunch lim _ _ 26 [some (.inr (.inr x0)), some (.inl x1), some (.inl x2), some (.inl x3), none, none, none, none, none] [] z6
      refine s_run (b := [(.iconst (-1), 1), (.istore 4, 2), (.iconst 0, 1), (.istore 5, 2), (.iconst 0, 1), (.istore 6, 2)]) 35 [some (.inr (.inr x0)), some (.inl x1), some (.inl x2), some (.inl x3), some (.inl (-1 : Int32)), some (.inl (0 : Int32)), some (.inl (0 : Int32)), none, none] [] (by decide +kernel) rfl ?_
      refine s_lsub (ls' := [some (.inr (.inr x0)), none, some (.inl x2), some (.inl x3), some (.inl (-1 : Int32)), some (.inl (0 : Int32)), some (.inl (0 : Int32)), none, none]) ⟨rfl, ⟨rfl, ⟨rfl, ⟨rfl, ⟨rfl, ⟨rfl, trivial⟩⟩⟩⟩⟩⟩ ?_
      refine sim_bind (L_X12_lunch_35 z6 x0 x2 x3 (-1 : Int32) (0 : Int32) (0 : Int32) _ (fun r7 => ?_))
      change Sim l G Y_X12_lunch lim _ _ 127 [none, none, none, some (.inl x3), some (.inl r7.1), some (.inl r7.2.1), none, none, none] [] r7.2.2
      refine s_run (b := [(.iload_n 3, 1)]) 128 [none, none, none, some (.inl x3), some (.inl r7.1), some (.inl r7.2.1), none, none, none] [.inl x3] (by decide +kernel) rfl ?_
      refine s_if_eq (tgt := 136) (off := 8) (by decide +kernel) (by decide) (fun h8 => ?_) (fun h8 => ?_)
      · skip
        refine s_run (b := [(.iload 4, 2)]) 138 [none, none, none, some (.inl x3), some (.inl r7.1), some (.inl r7.2.1), none, none, none] [.inl r7.1] (by decide +kernel) rfl ?_
        exact s_iret (by decide +kernel) rfl
      · skip
        refine s_run (b := [(.iload 5, 2), (.goto 5, 3)]) 138 [none, none, none, some (.inl x3), some (.inl r7.1), some (.inl r7.2.1), none, none, none] [.inl r7.2.1] (by decide +kernel) rfl ?_
        exact s_iret (by decide +kernel) rfl
set_option maxRecDepth 20000 in
theorem c_X12_lunch {l : Launch} {G : Gv} {M : Mem} {x0 : Nat} {x1 : Int32} {x2 : Int32} {x3 : Int32} {z : Int32 × Mem} (h : f_X12_lunch M x0 x1 x2 x3 = some z) : MetS l G Y_X12_lunch [.inr (.inr x0), .inl x1, .inl x2, .inl x3] M (some (.int z.1)) z.2 :=
  met_of (ls0 := [some (.inr (.inr x0)), some (.inl x1), some (.inl x2), some (.inl x3), none, none, none, none, none]) (by decide) rfl (lv_in (m := 5) rfl) (sl_le (Nat.le_of_ble_eq_true rfl)) (by rw [h]; rfl) (Or.inl ⟨rfl, rfl⟩) (S_X12_lunch M x0 x1 x2 x3)
def f_X12_sumOf_B5 (M : Mem) (x0 : Nat) (x1 : Int32) (x2 : Int32) (x3 : Int64) (x5 : Int32) : Option ((Int64 × Int32 × Mem) ⊕ ((Int64 × Mem))) :=
  (gI M 12 x0 12).bind fun v1 =>
  (if ((1 : Int32) <<< (v1 &&& 31)) ≤ x5 then
    some (.inr (x3, M))
  else
    (ob M 12 x0).bind fun _ => (f_X12_ofCall M x0 x1 (0 : Int32)).bind fun v3 =>
    (ob M 12 x0).bind fun _ => (f_X12_rings M x0 v3 x5).bind fun z4 =>
    (ob z4 12 x0).bind fun _ => (f_X12_isLifted z4 x0 x1).bind fun v5 =>
    (if v5 = 0 then
      some (.inl (x3, (x5 + (1 : Int32)), z4))
    else
      (ob z4 12 x0).bind fun _ => (f_X12_weightOf z4 x0 x5).bind fun v7 =>
      (if x2 = 0 then
        some (.inl ((x3 + (v7 * (Int32.toInt64 (1 : Int32)))), (x5 + (1 : Int32)), z4))
      else
        (ob z4 12 x0).bind fun _ => (f_X12_ofCall z4 x0 x1 (1 : Int32)).bind fun v9 =>
        (gI z4 12 x0 17).bind fun v10 =>
        (ob z4 12 x0).bind fun _ => (f_X12_gotBy z4 x0 v9 v10).bind fun v11 =>
        some (.inl ((x3 + (v7 * (Int32.toInt64 v11))), (x5 + (1 : Int32)), z4)))))
def f_X12_sumOf_L5 (M : Mem) (x0 : Nat) (x1 : Int32) (x2 : Int32) (x3 : Int64) (x5 : Int32) : Option ((Int64 × Mem)) := iter (fun s : Int64 × Int32 × Mem => f_X12_sumOf_B5 s.2.2 x0 x1 x2 s.1 s.2.1) 1048576 (x3, x5, M)
set_option maxRecDepth 20000 in
theorem B_X12_sumOf_5 {l : Launch} {G : Gv} {lim : Nat × Nat} (M : Mem) (x0 : Nat) (x1 : Int32) (x2 : Int32) (x3 : Int64) (x5 : Int32) (K : (Int64 × Int32 × Mem) ⊕ ((Int64 × Mem)) → Option (Option Value × Mem)) (kk1 : ∀ (s3 : Int64) (s5 : Int32) (s_ : Mem), SimR l G Y_X12_sumOf lim (K (.inl (s3, s5, s_))) 5 [some (.inr (.inr x0)), some (.inl x1), some (.inl x2), some (.inr (.inl s3)), none, some (.inl s5)] [] s_) (kk2_0 : ∀ (s3 : Int64) (s_ : Mem), SimR l G Y_X12_sumOf lim (K (.inr (s3, s_))) 75 [none, none, none, some (.inr (.inl s3)), none, none] [] s_) : Sim l G Y_X12_sumOf lim (f_X12_sumOf_B5 M x0 x1 x2 x3 x5) K 5 [some (.inr (.inr x0)), some (.inl x1), some (.inl x2), some (.inr (.inl x3)), none, some (.inl x5)] [] M := by
  unfold f_X12_sumOf_B5
  refine s_run (b := [(.iload 5, 2), (.iconst 1, 1), (.aload_n 0, 1)]) 9 [some (.inr (.inr x0)), some (.inl x1), some (.inl x2), some (.inr (.inl x3)), none, some (.inl x5)] [.inr (.inr x0), .inl (1 : Int32), .inl x5] (by decide +kernel) rfl ?_
  refine s_gI fl_12_162 rfl (by decide +kernel) (fun v1 => ?_)
  refine s_run (b := [(.ishl, 1)]) 13 [some (.inr (.inr x0)), some (.inl x1), some (.inl x2), some (.inr (.inl x3)), none, some (.inl x5)] [.inl ((1 : Int32) <<< (v1 &&& 31)), .inl x5] (by decide +kernel) rfl ?_
  refine s_ic_ge (tgt := 75) (off := 62) (by decide +kernel) (by decide) (fun h2 => ?_) (fun h2 => ?_)
  · skip
    exact s_lsub (ls' := [none, none, none, some (.inr (.inl x3)), none, none]) ⟨rfl, trivial⟩ (kk2_0 x3 M)
  · skip
    refine s_run (b := [(.aload_n 0, 1), (.aload_n 0, 1), (.iload_n 1, 1), (.iconst 0, 1)]) 20 [some (.inr (.inr x0)), some (.inl x1), some (.inl x2), some (.inr (.inl x3)), none, some (.inl x5)] [.inl (0 : Int32), .inl x1, .inr (.inr x0), .inr (.inr x0)] (by decide +kernel) rfl ?_
    refine s_cV (Z := Y_X12_ofCall) (c := 12) (vs := [.inl x1, .inl (0 : Int32)]) (st := [.inr (.inr x0)]) (rO := fun z => some (.inl z)) (mO := fun _ => M) zk_X12_ofCall zi_X12_ofCall q1566 rfl ⟨by decide, by decide⟩ ⟨rfl, rfl⟩ rfl rfl (Nat.le_of_ble_eq_true rfl) (by decide +kernel) (fun z hz => c_X12_ofCall hz) (fun v3 => ?_)
    change Sim l G Y_X12_sumOf lim _ _ 23 [some (.inr (.inr x0)), some (.inl x1), some (.inl x2), some (.inr (.inl x3)), none, some (.inl x5)] [.inl v3, .inr (.inr x0)] M
    refine s_run (b := [(.iload 5, 2)]) 25 [some (.inr (.inr x0)), some (.inl x1), some (.inl x2), some (.inr (.inl x3)), none, some (.inl x5)] [.inl x5, .inl v3, .inr (.inr x0)] (by decide +kernel) rfl ?_
    refine s_cV (Z := Y_X12_rings) (c := 12) (vs := [.inl v3, .inl x5]) (st := []) (rO := fun _ => none) (mO := fun z => z) zk_X12_rings zi_X12_rings q1605 rfl ⟨by decide, by decide⟩ ⟨rfl, rfl⟩ rfl rfl (Nat.le_of_ble_eq_true rfl) (by decide +kernel) (fun z hz => c_X12_rings hz) (fun z4 => ?_)
    change Sim l G Y_X12_sumOf lim _ _ 28 [some (.inr (.inr x0)), some (.inl x1), some (.inl x2), some (.inr (.inl x3)), none, some (.inl x5)] [] z4
    refine s_run (b := [(.aload_n 0, 1), (.iload_n 1, 1)]) 30 [some (.inr (.inr x0)), some (.inl x1), some (.inl x2), some (.inr (.inl x3)), none, some (.inl x5)] [.inl x1, .inr (.inr x0)] (by decide +kernel) rfl ?_
    refine s_cV (Z := Y_X12_isLifted) (c := 12) (vs := [.inl x1]) (st := []) (rO := fun z => some (.inl z)) (mO := fun _ => z4) zk_X12_isLifted zi_X12_isLifted q1625 rfl ⟨by decide, by decide⟩ ⟨rfl, rfl⟩ rfl rfl (Nat.le_of_ble_eq_true rfl) (by decide +kernel) (fun z hz => c_X12_isLifted hz) (fun v5 => ?_)
    change Sim l G Y_X12_sumOf lim _ _ 33 [some (.inr (.inr x0)), some (.inl x1), some (.inl x2), some (.inr (.inl x3)), none, some (.inl x5)] [.inl v5] z4
    refine s_if_eq (tgt := 69) (off := 36) (by decide +kernel) (by decide) (fun h6 => ?_) (fun h6 => ?_)
    · skip
      refine s_run (b := [(.iinc 5 1, 3), (.goto (-67), 3)]) 5 [some (.inr (.inr x0)), some (.inl x1), some (.inl x2), some (.inr (.inl x3)), none, some (.inl (x5 + (1 : Int32)))] [] (by decide +kernel) rfl ?_
      exact s_lsub (ls' := [some (.inr (.inr x0)), some (.inl x1), some (.inl x2), some (.inr (.inl x3)), none, some (.inl (x5 + (1 : Int32)))]) ⟨rfl, ⟨rfl, ⟨rfl, ⟨rfl, ⟨rfl, trivial⟩⟩⟩⟩⟩ (kk1 x3 (x5 + (1 : Int32)) z4)
    · skip
      refine s_run (b := [(.lload_n 3, 1), (.aload_n 0, 1), (.iload 5, 2)]) 40 [some (.inr (.inr x0)), some (.inl x1), some (.inl x2), some (.inr (.inl x3)), none, some (.inl x5)] [.inl x5, .inr (.inr x0), .inr (.inl x3)] (by decide +kernel) rfl ?_
      refine s_cV (Z := Y_X12_weightOf) (c := 12) (vs := [.inl x5]) (st := [.inr (.inl x3)]) (rO := fun z => some (.inr (.inl z))) (mO := fun _ => z4) zk_X12_weightOf zi_X12_weightOf q1665 rfl ⟨by decide, by decide⟩ ⟨rfl, rfl⟩ rfl rfl (Nat.le_of_ble_eq_true rfl) (by decide +kernel) (fun z hz => c_X12_weightOf hz) (fun v7 => ?_)
      change Sim l G Y_X12_sumOf lim _ _ 43 [some (.inr (.inr x0)), some (.inl x1), some (.inl x2), some (.inr (.inl x3)), none, some (.inl x5)] [.inr (.inl v7), .inr (.inl x3)] z4
      refine s_run (b := [(.iload_n 2, 1)]) 44 [some (.inr (.inr x0)), some (.inl x1), some (.inl x2), some (.inr (.inl x3)), none, some (.inl x5)] [.inl x2, .inr (.inl v7), .inr (.inl x3)] (by decide +kernel) rfl ?_
      refine s_if_eq (tgt := 64) (off := 20) (by decide +kernel) (by decide) (fun h8 => ?_) (fun h8 => ?_)
      · skip
        refine s_run (b := [(.iconst 1, 1), (.i2l, 1), (.lmul, 1), (.ladd, 1), (.lstore_n 3, 1), (.iinc 5 1, 3), (.goto (-67), 3)]) 5 [some (.inr (.inr x0)), some (.inl x1), some (.inl x2), some (.inr (.inl (x3 + (v7 * (Int32.toInt64 (1 : Int32)))))), none, some (.inl (x5 + (1 : Int32)))] [] (by decide +kernel) rfl ?_
        exact s_lsub (ls' := [some (.inr (.inr x0)), some (.inl x1), some (.inl x2), some (.inr (.inl (x3 + (v7 * (Int32.toInt64 (1 : Int32)))))), none, some (.inl (x5 + (1 : Int32)))]) ⟨rfl, ⟨rfl, ⟨rfl, ⟨rfl, ⟨rfl, trivial⟩⟩⟩⟩⟩ (kk1 (x3 + (v7 * (Int32.toInt64 (1 : Int32)))) (x5 + (1 : Int32)) z4)
      · skip
        refine s_run (b := [(.aload_n 0, 1), (.aload_n 0, 1), (.iload_n 1, 1), (.iconst 1, 1)]) 51 [some (.inr (.inr x0)), some (.inl x1), some (.inl x2), some (.inr (.inl x3)), none, some (.inl x5)] [.inl (1 : Int32), .inl x1, .inr (.inr x0), .inr (.inr x0), .inr (.inl v7), .inr (.inl x3)] (by decide +kernel) rfl ?_
        refine s_cV (Z := Y_X12_ofCall) (c := 12) (vs := [.inl x1, .inl (1 : Int32)]) (st := [.inr (.inr x0), .inr (.inl v7), .inr (.inl x3)]) (rO := fun z => some (.inl z)) (mO := fun _ => z4) zk_X12_ofCall zi_X12_ofCall q1566 rfl ⟨by decide, by decide⟩ ⟨rfl, rfl⟩ rfl rfl (Nat.le_of_ble_eq_true rfl) (by decide +kernel) (fun z hz => c_X12_ofCall hz) (fun v9 => ?_)
        change Sim l G Y_X12_sumOf lim _ _ 54 [some (.inr (.inr x0)), some (.inl x1), some (.inl x2), some (.inr (.inl x3)), none, some (.inl x5)] [.inl v9, .inr (.inr x0), .inr (.inl v7), .inr (.inl x3)] z4
        refine s_run (b := [(.aload_n 0, 1)]) 55 [some (.inr (.inr x0)), some (.inl x1), some (.inl x2), some (.inr (.inl x3)), none, some (.inl x5)] [.inr (.inr x0), .inl v9, .inr (.inr x0), .inr (.inl v7), .inr (.inl x3)] (by decide +kernel) rfl ?_
        refine s_gI fl_12_198 rfl (by decide +kernel) (fun v10 => ?_)
        refine s_cV (Z := Y_X12_gotBy) (c := 12) (vs := [.inl v9, .inl v10]) (st := [.inr (.inl v7), .inr (.inl x3)]) (rO := fun z => some (.inl z)) (mO := fun _ => z4) zk_X12_gotBy zi_X12_gotBy q1629 rfl ⟨by decide, by decide⟩ ⟨rfl, rfl⟩ rfl rfl (Nat.le_of_ble_eq_true rfl) (by decide +kernel) (fun z hz => c_X12_gotBy hz) (fun v11 => ?_)
        change Sim l G Y_X12_sumOf lim _ _ 61 [some (.inr (.inr x0)), some (.inl x1), some (.inl x2), some (.inr (.inl x3)), none, some (.inl x5)] [.inl v11, .inr (.inl v7), .inr (.inl x3)] z4
        refine s_run (b := [(.goto 4, 3), (.i2l, 1), (.lmul, 1), (.ladd, 1), (.lstore_n 3, 1), (.iinc 5 1, 3), (.goto (-67), 3)]) 5 [some (.inr (.inr x0)), some (.inl x1), some (.inl x2), some (.inr (.inl (x3 + (v7 * (Int32.toInt64 v11))))), none, some (.inl (x5 + (1 : Int32)))] [] (by decide +kernel) rfl ?_
        exact s_lsub (ls' := [some (.inr (.inr x0)), some (.inl x1), some (.inl x2), some (.inr (.inl (x3 + (v7 * (Int32.toInt64 v11))))), none, some (.inl (x5 + (1 : Int32)))]) ⟨rfl, ⟨rfl, ⟨rfl, ⟨rfl, ⟨rfl, trivial⟩⟩⟩⟩⟩ (kk1 (x3 + (v7 * (Int32.toInt64 v11))) (x5 + (1 : Int32)) z4)
set_option maxRecDepth 20000 in
theorem L_X12_sumOf_5 {l : Launch} {G : Gv} {lim : Nat × Nat} (M : Mem) (x0 : Nat) (x1 : Int32) (x2 : Int32) (x3 : Int64) (x5 : Int32) (K : ((Int64 × Mem)) → Option (Option Value × Mem)) (kk2_0 : ∀ r : Int64 × Mem, SimR l G Y_X12_sumOf lim (K r) 75 [none, none, none, some (.inr (.inl r.1)), none, none] [] r.2) : Sim l G Y_X12_sumOf lim (f_X12_sumOf_L5 M x0 x1 x2 x3 x5) K 5 [some (.inr (.inr x0)), some (.inl x1), some (.inl x2), some (.inr (.inl x3)), none, some (.inl x5)] [] M :=
  s_iter (f := fun s : Int64 × Int32 × Mem => f_X12_sumOf_B5 s.2.2 x0 x1 x2 s.1 s.2.1) (hd := 5) (cl := fun s => [some (.inr (.inr x0)), some (.inl x1), some (.inl x2), some (.inr (.inl s.1)), none, some (.inl s.2.1)]) (cm := fun s => s.2.2) (xp := fun _ => 75) (xl := fun r => [none, none, none, some (.inr (.inl r.1)), none, none]) (xm := fun r => r.2) (fun s K h1 h2 => B_X12_sumOf_5 s.2.2 x0 x1 x2 s.1 s.2.1 K (fun a3 a5 a_ => h1 (a3, a5, a_)) (fun a3 a_ => h2 (a3, a_))) 1048576 (x3, x5, M) K kk2_0
def f_X12_sumOf (M : Mem) (x0 : Nat) (x1 : Int32) (x2 : Int32) : Option (Int64 × Mem) :=
  (f_X12_sumOf_L5 M x0 x1 x2 (0 : Int64) (0 : Int32)).bind fun r1 =>
  some (r1.1, r1.2)
set_option maxRecDepth 20000 in
theorem S_X12_sumOf {l : Launch} {G : Gv} {lim : Nat × Nat} (M : Mem) (x0 : Nat) (x1 : Int32) (x2 : Int32) : Sim l G Y_X12_sumOf lim (f_X12_sumOf M x0 x1 x2) (fun z => some (some (.long z.1), z.2)) 0 [some (.inr (.inr x0)), some (.inl x1), some (.inl x2), none, none, none] [] M := by
  unfold f_X12_sumOf
  refine s_run (b := [(.lconst 0, 1), (.lstore_n 3, 1), (.iconst 0, 1), (.istore 5, 2)]) 5 [some (.inr (.inr x0)), some (.inl x1), some (.inl x2), some (.inr (.inl (0 : Int64))), none, some (.inl (0 : Int32))] [] (by decide +kernel) rfl ?_
  refine s_lsub (ls' := [some (.inr (.inr x0)), some (.inl x1), some (.inl x2), some (.inr (.inl (0 : Int64))), none, some (.inl (0 : Int32))]) ⟨rfl, ⟨rfl, ⟨rfl, ⟨rfl, ⟨rfl, trivial⟩⟩⟩⟩⟩ ?_
  refine sim_bind (L_X12_sumOf_5 M x0 x1 x2 (0 : Int64) (0 : Int32) _ (fun r1 => ?_))
  change Sim l G Y_X12_sumOf lim _ _ 75 [none, none, none, some (.inr (.inl r1.1)), none, none] [] r1.2
  refine s_run (b := [(.lload_n 3, 1)]) 76 [none, none, none, some (.inr (.inl r1.1)), none, none] [.inr (.inl r1.1)] (by decide +kernel) rfl ?_
  exact s_lret (by decide +kernel) rfl
set_option maxRecDepth 20000 in
theorem c_X12_sumOf {l : Launch} {G : Gv} {M : Mem} {x0 : Nat} {x1 : Int32} {x2 : Int32} {z : Int64 × Mem} (h : f_X12_sumOf M x0 x1 x2 = some z) : MetS l G Y_X12_sumOf [.inr (.inr x0), .inl x1, .inl x2] M (some (.long z.1)) z.2 :=
  met_of (ls0 := [some (.inr (.inr x0)), some (.inl x1), some (.inl x2), none, none, none]) (by decide) rfl (lv_in (m := 3) rfl) (sl_le (Nat.le_of_ble_eq_true rfl)) (by rw [h]; rfl) (Or.inl ⟨rfl, rfl⟩) (S_X12_sumOf M x0 x1 x2)
def f_X12_mean_J16 (M : Mem)   : Option (Int64 × Mem) :=
  some ((-1 : Int64), M)
set_option maxRecDepth 20000 in
theorem J_X12_mean_16 {l : Launch} {G : Gv} {lim : Nat × Nat} (M : Mem)    : Sim l G Y_X12_mean lim (f_X12_mean_J16 M ) (fun z => some (some (.long z.1), z.2)) 16 [none, none, none, none] [] M := by
  unfold f_X12_mean_J16
  refine s_ldc2 q1660 (by decide +kernel) ?_
  change Sim l G Y_X12_mean lim _ _ 19 [none, none, none, none] [.inr (.inl (-1 : Int64))] M
  exact s_lret (by decide +kernel) rfl
def f_X12_mean (M : Mem) (x0 : Nat) (x1 : Int32) (x2 : Int32) (x3 : Int32) : Option (Int64 × Mem) :=
  (ob M 12 x0).bind fun _ => (f_X12_isOffice M x0 x1).bind fun z1 =>
  (if z1.1 = 0 then
    f_X12_mean_J16 z1.2  
  else
    (ob z1.2 12 x0).bind fun _ => (f_X12_isCall z1.2 x0 x2).bind fun v3 =>
    (if v3 = 0 then
      f_X12_mean_J16 z1.2  
    else
      (ob z1.2 12 x0).bind fun _ => (f_X12_asTold z1.2 x0).bind fun z5 =>
      (ob z5 12 x0).bind fun _ => (f_X12_sumOf z5 x0 x2 (1 : Int32)).bind fun z6 =>
      (gI z6.2 12 x0 12).bind fun v7 =>
      (f_X12_tens z6.2 v7).bind fun v8 =>
      (f_X12_fraction z6.2 z6.1 v8 x3).bind fun v9 =>
      some (v9, z6.2)))
set_option maxRecDepth 20000 in
theorem S_X12_mean {l : Launch} {G : Gv} {lim : Nat × Nat} (M : Mem) (x0 : Nat) (x1 : Int32) (x2 : Int32) (x3 : Int32) : Sim l G Y_X12_mean lim (f_X12_mean M x0 x1 x2 x3) (fun z => some (some (.long z.1), z.2)) 0 [some (.inr (.inr x0)), some (.inl x1), some (.inl x2), some (.inl x3)] [] M := by
  unfold f_X12_mean
  refine s_run (b := [(.aload_n 0, 1), (.iload_n 1, 1)]) 2 [some (.inr (.inr x0)), some (.inl x1), some (.inl x2), some (.inl x3)] [.inl x1, .inr (.inr x0)] (by decide +kernel) rfl ?_
  refine s_cV (Z := Y_X12_isOffice) (c := 12) (vs := [.inl x1]) (st := []) (rO := fun z => some (.inl z.1)) (mO := fun z => z.2) zk_X12_isOffice zi_X12_isOffice q1550 rfl ⟨by decide, by decide⟩ ⟨rfl, rfl⟩ rfl rfl (Nat.le_of_ble_eq_true rfl) (by decide +kernel) (fun z hz => c_X12_isOffice hz) (fun z1 => ?_)
  change Sim l G Y_X12_mean lim _ _ 5 [some (.inr (.inr x0)), some (.inl x1), some (.inl x2), some (.inl x3)] [.inl z1.1] z1.2
  refine s_if_eq (tgt := 16) (off := 11) (by decide +kernel) (by decide) (fun h2 => ?_) (fun h2 => ?_)
  · skip
    exact s_lsub (ls' := [none, none, none, none]) trivial (J_X12_mean_16 z1.2  )
  · skip
    refine s_run (b := [(.aload_n 0, 1), (.iload_n 2, 1)]) 10 [some (.inr (.inr x0)), some (.inl x1), some (.inl x2), some (.inl x3)] [.inl x2, .inr (.inr x0)] (by decide +kernel) rfl ?_
    refine s_cV (Z := Y_X12_isCall) (c := 12) (vs := [.inl x2]) (st := []) (rO := fun z => some (.inl z)) (mO := fun _ => z1.2) zk_X12_isCall zi_X12_isCall q1562 rfl ⟨by decide, by decide⟩ ⟨rfl, rfl⟩ rfl rfl (Nat.le_of_ble_eq_true rfl) (by decide +kernel) (fun z hz => c_X12_isCall hz) (fun v3 => ?_)
    change Sim l G Y_X12_mean lim _ _ 13 [some (.inr (.inr x0)), some (.inl x1), some (.inl x2), some (.inl x3)] [.inl v3] z1.2
    refine s_if_ne (tgt := 20) (off := 7) (by decide +kernel) (by decide) (fun h4 => ?_) (fun h4 => ?_)
    · skip
      exact s_lsub (ls' := [none, none, none, none]) trivial (J_X12_mean_16 z1.2  )
    · skip
      refine s_run (b := [(.aload_n 0, 1)]) 21 [some (.inr (.inr x0)), some (.inl x1), some (.inl x2), some (.inl x3)] [.inr (.inr x0)] (by decide +kernel) rfl ?_
      refine s_cV (Z := Y_X12_asTold) (c := 12) (vs := []) (st := []) (rO := fun _ => none) (mO := fun z => z) zk_X12_asTold zi_X12_asTold q1590 rfl ⟨by decide, by decide⟩ ⟨rfl, rfl⟩ rfl rfl (Nat.le_of_ble_eq_true rfl) (by decide +kernel) (fun z hz => c_X12_asTold hz) (fun z5 => ?_)
      change Sim l G Y_X12_mean lim _ _ 24 [some (.inr (.inr x0)), some (.inl x1), some (.inl x2), some (.inl x3)] [] z5
      refine s_run (b := [(.aload_n 0, 1), (.iload_n 2, 1), (.iconst 1, 1)]) 27 [some (.inr (.inr x0)), some (.inl x1), some (.inl x2), some (.inl x3)] [.inl (1 : Int32), .inl x2, .inr (.inr x0)] (by decide +kernel) rfl ?_
      refine s_cV (Z := Y_X12_sumOf) (c := 12) (vs := [.inl x2, .inl (1 : Int32)]) (st := []) (rO := fun z => some (.inr (.inl z.1))) (mO := fun z => z.2) zk_X12_sumOf zi_X12_sumOf q1661 rfl ⟨by decide, by decide⟩ ⟨rfl, rfl⟩ rfl rfl (Nat.le_of_ble_eq_true rfl) (by decide +kernel) (fun z hz => c_X12_sumOf hz) (fun z6 => ?_)
      change Sim l G Y_X12_mean lim _ _ 30 [some (.inr (.inr x0)), some (.inl x1), some (.inl x2), some (.inl x3)] [.inr (.inl z6.1)] z6.2
      refine s_run (b := [(.aload_n 0, 1)]) 31 [some (.inr (.inr x0)), some (.inl x1), some (.inl x2), some (.inl x3)] [.inr (.inr x0), .inr (.inl z6.1)] (by decide +kernel) rfl ?_
      refine s_gI fl_12_162 rfl (by decide +kernel) (fun v7 => ?_)
      refine s_cS (Z := Y_X12_tens) (vs := [.inl v7]) (st := [.inr (.inl z6.1)]) (rO := fun z => some (.inr (.inl z))) (mO := fun _ => z6.2) zk_X12_tens q1670 q1669 ⟨by decide, by decide⟩ ⟨rfl, rfl⟩ rfl rfl (Nat.le_of_ble_eq_true rfl) (by decide +kernel) (fun z hz => c_X12_tens hz) (fun v8 => ?_)
      change Sim l G Y_X12_mean lim _ _ 37 [some (.inr (.inr x0)), some (.inl x1), some (.inl x2), some (.inl x3)] [.inr (.inl v8), .inr (.inl z6.1)] z6.2
      refine s_run (b := [(.iload_n 3, 1)]) 38 [some (.inr (.inr x0)), some (.inl x1), some (.inl x2), some (.inl x3)] [.inl x3, .inr (.inl v8), .inr (.inl z6.1)] (by decide +kernel) rfl ?_
      refine s_cS (Z := Y_X12_fraction) (vs := [.inr (.inl z6.1), .inr (.inl v8), .inl x3]) (st := []) (rO := fun z => some (.inr (.inl z))) (mO := fun _ => z6.2) zk_X12_fraction q1674 q1673 ⟨by decide, by decide⟩ ⟨rfl, rfl⟩ rfl rfl (Nat.le_of_ble_eq_true rfl) (by decide +kernel) (fun z hz => c_X12_fraction hz) (fun v9 => ?_)
      change Sim l G Y_X12_mean lim _ _ 41 [some (.inr (.inr x0)), some (.inl x1), some (.inl x2), some (.inl x3)] [.inr (.inl v9)] z6.2
      exact s_lret (by decide +kernel) rfl
set_option maxRecDepth 20000 in
theorem c_X12_mean {l : Launch} {G : Gv} {M : Mem} {x0 : Nat} {x1 : Int32} {x2 : Int32} {x3 : Int32} {z : Int64 × Mem} (h : f_X12_mean M x0 x1 x2 x3 = some z) : MetS l G Y_X12_mean [.inr (.inr x0), .inl x1, .inl x2, .inl x3] M (some (.long z.1)) z.2 :=
  met_of (ls0 := [some (.inr (.inr x0)), some (.inl x1), some (.inl x2), some (.inl x3)]) (by decide) rfl (lv_in (m := 0) rfl) (sl_le (Nat.le_of_ble_eq_true rfl)) (by rw [h]; rfl) (Or.inl ⟨rfl, rfl⟩) (S_X12_mean M x0 x1 x2 x3)
def f_X12_odds_J16 (M : Mem)   : Option (Int64 × Mem) :=
  some ((-1 : Int64), M)
set_option maxRecDepth 20000 in
theorem J_X12_odds_16 {l : Launch} {G : Gv} {lim : Nat × Nat} (M : Mem)    : Sim l G Y_X12_odds lim (f_X12_odds_J16 M ) (fun z => some (some (.long z.1), z.2)) 16 [none, none, none, none] [] M := by
  unfold f_X12_odds_J16
  refine s_ldc2 q1660 (by decide +kernel) ?_
  change Sim l G Y_X12_odds lim _ _ 19 [none, none, none, none] [.inr (.inl (-1 : Int64))] M
  exact s_lret (by decide +kernel) rfl
def f_X12_odds (M : Mem) (x0 : Nat) (x1 : Int32) (x2 : Int32) (x3 : Int32) : Option (Int64 × Mem) :=
  (ob M 12 x0).bind fun _ => (f_X12_isOffice M x0 x1).bind fun z1 =>
  (if z1.1 = 0 then
    f_X12_odds_J16 z1.2  
  else
    (ob z1.2 12 x0).bind fun _ => (f_X12_isCall z1.2 x0 x2).bind fun v3 =>
    (if v3 = 0 then
      f_X12_odds_J16 z1.2  
    else
      (ob z1.2 12 x0).bind fun _ => (f_X12_asTold z1.2 x0).bind fun z5 =>
      (ob z5 12 x0).bind fun _ => (f_X12_sumOf z5 x0 x2 (0 : Int32)).bind fun z6 =>
      (gI z6.2 12 x0 12).bind fun v7 =>
      (f_X12_tens z6.2 v7).bind fun v8 =>
      (f_X12_fraction z6.2 z6.1 v8 x3).bind fun v9 =>
      some (v9, z6.2)))
set_option maxRecDepth 20000 in
theorem S_X12_odds {l : Launch} {G : Gv} {lim : Nat × Nat} (M : Mem) (x0 : Nat) (x1 : Int32) (x2 : Int32) (x3 : Int32) : Sim l G Y_X12_odds lim (f_X12_odds M x0 x1 x2 x3) (fun z => some (some (.long z.1), z.2)) 0 [some (.inr (.inr x0)), some (.inl x1), some (.inl x2), some (.inl x3)] [] M := by
  unfold f_X12_odds
  refine s_run (b := [(.aload_n 0, 1), (.iload_n 1, 1)]) 2 [some (.inr (.inr x0)), some (.inl x1), some (.inl x2), some (.inl x3)] [.inl x1, .inr (.inr x0)] (by decide +kernel) rfl ?_
  refine s_cV (Z := Y_X12_isOffice) (c := 12) (vs := [.inl x1]) (st := []) (rO := fun z => some (.inl z.1)) (mO := fun z => z.2) zk_X12_isOffice zi_X12_isOffice q1550 rfl ⟨by decide, by decide⟩ ⟨rfl, rfl⟩ rfl rfl (Nat.le_of_ble_eq_true rfl) (by decide +kernel) (fun z hz => c_X12_isOffice hz) (fun z1 => ?_)
  change Sim l G Y_X12_odds lim _ _ 5 [some (.inr (.inr x0)), some (.inl x1), some (.inl x2), some (.inl x3)] [.inl z1.1] z1.2
  refine s_if_eq (tgt := 16) (off := 11) (by decide +kernel) (by decide) (fun h2 => ?_) (fun h2 => ?_)
  · skip
    exact s_lsub (ls' := [none, none, none, none]) trivial (J_X12_odds_16 z1.2  )
  · skip
    refine s_run (b := [(.aload_n 0, 1), (.iload_n 2, 1)]) 10 [some (.inr (.inr x0)), some (.inl x1), some (.inl x2), some (.inl x3)] [.inl x2, .inr (.inr x0)] (by decide +kernel) rfl ?_
    refine s_cV (Z := Y_X12_isCall) (c := 12) (vs := [.inl x2]) (st := []) (rO := fun z => some (.inl z)) (mO := fun _ => z1.2) zk_X12_isCall zi_X12_isCall q1562 rfl ⟨by decide, by decide⟩ ⟨rfl, rfl⟩ rfl rfl (Nat.le_of_ble_eq_true rfl) (by decide +kernel) (fun z hz => c_X12_isCall hz) (fun v3 => ?_)
    change Sim l G Y_X12_odds lim _ _ 13 [some (.inr (.inr x0)), some (.inl x1), some (.inl x2), some (.inl x3)] [.inl v3] z1.2
    refine s_if_ne (tgt := 20) (off := 7) (by decide +kernel) (by decide) (fun h4 => ?_) (fun h4 => ?_)
    · skip
      exact s_lsub (ls' := [none, none, none, none]) trivial (J_X12_odds_16 z1.2  )
    · skip
      refine s_run (b := [(.aload_n 0, 1)]) 21 [some (.inr (.inr x0)), some (.inl x1), some (.inl x2), some (.inl x3)] [.inr (.inr x0)] (by decide +kernel) rfl ?_
      refine s_cV (Z := Y_X12_asTold) (c := 12) (vs := []) (st := []) (rO := fun _ => none) (mO := fun z => z) zk_X12_asTold zi_X12_asTold q1590 rfl ⟨by decide, by decide⟩ ⟨rfl, rfl⟩ rfl rfl (Nat.le_of_ble_eq_true rfl) (by decide +kernel) (fun z hz => c_X12_asTold hz) (fun z5 => ?_)
      change Sim l G Y_X12_odds lim _ _ 24 [some (.inr (.inr x0)), some (.inl x1), some (.inl x2), some (.inl x3)] [] z5
      refine s_run (b := [(.aload_n 0, 1), (.iload_n 2, 1), (.iconst 0, 1)]) 27 [some (.inr (.inr x0)), some (.inl x1), some (.inl x2), some (.inl x3)] [.inl (0 : Int32), .inl x2, .inr (.inr x0)] (by decide +kernel) rfl ?_
      refine s_cV (Z := Y_X12_sumOf) (c := 12) (vs := [.inl x2, .inl (0 : Int32)]) (st := []) (rO := fun z => some (.inr (.inl z.1))) (mO := fun z => z.2) zk_X12_sumOf zi_X12_sumOf q1661 rfl ⟨by decide, by decide⟩ ⟨rfl, rfl⟩ rfl rfl (Nat.le_of_ble_eq_true rfl) (by decide +kernel) (fun z hz => c_X12_sumOf hz) (fun z6 => ?_)
      change Sim l G Y_X12_odds lim _ _ 30 [some (.inr (.inr x0)), some (.inl x1), some (.inl x2), some (.inl x3)] [.inr (.inl z6.1)] z6.2
      refine s_run (b := [(.aload_n 0, 1)]) 31 [some (.inr (.inr x0)), some (.inl x1), some (.inl x2), some (.inl x3)] [.inr (.inr x0), .inr (.inl z6.1)] (by decide +kernel) rfl ?_
      refine s_gI fl_12_162 rfl (by decide +kernel) (fun v7 => ?_)
      refine s_cS (Z := Y_X12_tens) (vs := [.inl v7]) (st := [.inr (.inl z6.1)]) (rO := fun z => some (.inr (.inl z))) (mO := fun _ => z6.2) zk_X12_tens q1670 q1669 ⟨by decide, by decide⟩ ⟨rfl, rfl⟩ rfl rfl (Nat.le_of_ble_eq_true rfl) (by decide +kernel) (fun z hz => c_X12_tens hz) (fun v8 => ?_)
      change Sim l G Y_X12_odds lim _ _ 37 [some (.inr (.inr x0)), some (.inl x1), some (.inl x2), some (.inl x3)] [.inr (.inl v8), .inr (.inl z6.1)] z6.2
      refine s_run (b := [(.iload_n 3, 1)]) 38 [some (.inr (.inr x0)), some (.inl x1), some (.inl x2), some (.inl x3)] [.inl x3, .inr (.inl v8), .inr (.inl z6.1)] (by decide +kernel) rfl ?_
      refine s_cS (Z := Y_X12_fraction) (vs := [.inr (.inl z6.1), .inr (.inl v8), .inl x3]) (st := []) (rO := fun z => some (.inr (.inl z))) (mO := fun _ => z6.2) zk_X12_fraction q1674 q1673 ⟨by decide, by decide⟩ ⟨rfl, rfl⟩ rfl rfl (Nat.le_of_ble_eq_true rfl) (by decide +kernel) (fun z hz => c_X12_fraction hz) (fun v9 => ?_)
      change Sim l G Y_X12_odds lim _ _ 41 [some (.inr (.inr x0)), some (.inl x1), some (.inl x2), some (.inl x3)] [.inr (.inl v9)] z6.2
      exact s_lret (by decide +kernel) rfl
set_option maxRecDepth 20000 in
theorem c_X12_odds {l : Launch} {G : Gv} {M : Mem} {x0 : Nat} {x1 : Int32} {x2 : Int32} {x3 : Int32} {z : Int64 × Mem} (h : f_X12_odds M x0 x1 x2 x3 = some z) : MetS l G Y_X12_odds [.inr (.inr x0), .inl x1, .inl x2, .inl x3] M (some (.long z.1)) z.2 :=
  met_of (ls0 := [some (.inr (.inr x0)), some (.inl x1), some (.inl x2), some (.inl x3)]) (by decide) rfl (lv_in (m := 0) rfl) (sl_le (Nat.le_of_ble_eq_true rfl)) (by rw [h]; rfl) (Or.inl ⟨rfl, rfl⟩) (S_X12_odds M x0 x1 x2 x3)
def f_X12_office (M : Mem) (x0 : Nat) (x1 : Int32) (x2 : Int32) : Option (Int32 × Mem) :=
  (ob M 12 x0).bind fun _ => (f_X12_isOffice M x0 x1).bind fun z1 =>
  (if z1.1 = 0 then
    some ((-1 : Int32), z1.2)
  else
    (f_X12_isIn z1.2 x2 (0 : Int32) (4 : Int32)).bind fun v3 =>
    (if v3 = 0 then
      (rmI x2 (10 : Int32)).bind fun v5 =>
      (f_X12_isIn z1.2 x2 (10 : Int32) (59 : Int32)).bind fun v6 =>
      (if v6 = 0 then
        (f_X12_isIn z1.2 x2 (60 : Int32) (89 : Int32)).bind fun v8 =>
        (if v8 = 0 then
          some ((-1 : Int32), z1.2)
        else
          (ob z1.2 12 x0).bind fun _ => (f_X12_isCall z1.2 x0 v5).bind fun v10 =>
          (if v10 = 0 then
            some ((-1 : Int32), z1.2)
          else
            (dvI x2 (10 : Int32)).bind fun v12 =>
            (ob z1.2 12 x0).bind fun _ => (f_X12_ofCall z1.2 x0 v5 (v12 - (6 : Int32))).bind fun v13 =>
            some (v13, z1.2)))
      else
        (ob z1.2 12 x0).bind fun _ => (f_X12_isDesk z1.2 x0 v5).bind fun v14 =>
        (if v14 = 0 then
          some ((-1 : Int32), z1.2)
        else
          (dvI x2 (10 : Int32)).bind fun v16 =>
          (ob z1.2 12 x0).bind fun _ => (f_X12_of z1.2 x0 v5 (v16 - (1 : Int32))).bind fun v17 =>
          some (v17, z1.2)))
    else
      (gR z1.2 12 x0 0).bind fun v18 =>
      (gI z1.2 12 x0 11).bind fun v19 =>
      (aI z1.2 0 v18 (v19 + x2)).bind fun v20 =>
      some (v20, z1.2)))
set_option maxRecDepth 20000 in
theorem S_X12_office {l : Launch} {G : Gv} {lim : Nat × Nat} (M : Mem) (x0 : Nat) (x1 : Int32) (x2 : Int32) : Sim l G Y_X12_office lim (f_X12_office M x0 x1 x2) (fun z => some (some (.int z.1), z.2)) 0 [some (.inr (.inr x0)), some (.inl x1), some (.inl x2), none] [] M := by
  unfold f_X12_office
  refine s_run (b := [(.aload_n 0, 1), (.iload_n 1, 1)]) 2 [some (.inr (.inr x0)), some (.inl x1), some (.inl x2), none] [.inl x1, .inr (.inr x0)] (by decide +kernel) rfl ?_
  refine s_cV (Z := Y_X12_isOffice) (c := 12) (vs := [.inl x1]) (st := []) (rO := fun z => some (.inl z.1)) (mO := fun z => z.2) zk_X12_isOffice zi_X12_isOffice q1550 rfl ⟨by decide, by decide⟩ ⟨rfl, rfl⟩ rfl rfl (Nat.le_of_ble_eq_true rfl) (by decide +kernel) (fun z hz => c_X12_isOffice hz) (fun z1 => ?_)
  change Sim l G Y_X12_office lim _ _ 5 [some (.inr (.inr x0)), some (.inl x1), some (.inl x2), none] [.inl z1.1] z1.2
  refine s_if_ne (tgt := 10) (off := 5) (by decide +kernel) (by decide) (fun h2 => ?_) (fun h2 => ?_)
  · skip
    refine s_run (b := [(.iconst (-1), 1)]) 9 [some (.inr (.inr x0)), some (.inl x1), some (.inl x2), none] [.inl (-1 : Int32)] (by decide +kernel) rfl ?_
    exact s_iret (by decide +kernel) rfl
  · skip
    refine s_run (b := [(.iload_n 2, 1), (.iconst 0, 1), (.iconst 4, 1)]) 13 [some (.inr (.inr x0)), some (.inl x1), some (.inl x2), none] [.inl (4 : Int32), .inl (0 : Int32), .inl x2] (by decide +kernel) rfl ?_
    refine s_cS (Z := Y_X12_isIn) (vs := [.inl x2, .inl (0 : Int32), .inl (4 : Int32)]) (st := []) (rO := fun z => some (.inl z)) (mO := fun _ => z1.2) zk_X12_isIn q1464 q1463 ⟨by decide, by decide⟩ ⟨rfl, rfl⟩ rfl rfl (Nat.le_of_ble_eq_true rfl) (by decide +kernel) (fun z hz => c_X12_isIn hz) (fun v3 => ?_)
    change Sim l G Y_X12_office lim _ _ 16 [some (.inr (.inr x0)), some (.inl x1), some (.inl x2), none] [.inl v3] z1.2
    refine s_if_eq (tgt := 31) (off := 15) (by decide +kernel) (by decide) (fun h4 => ?_) (fun h4 => ?_)
    · skip
      refine s_run (b := [(.iload_n 2, 1), (.bipush 10, 2)]) 34 [some (.inr (.inr x0)), some (.inl x1), some (.inl x2), none] [.inl (10 : Int32), .inl x2] (by decide +kernel) rfl ?_
      refine s_irem (by decide +kernel) (fun v5 => ?_)
      refine s_run (b := [(.istore_n 3, 1), (.iload_n 2, 1), (.bipush 10, 2), (.bipush 59, 2)]) 41 [some (.inr (.inr x0)), some (.inl x1), some (.inl x2), some (.inl v5)] [.inl (59 : Int32), .inl (10 : Int32), .inl x2] (by decide +kernel) rfl ?_
      refine s_cS (Z := Y_X12_isIn) (vs := [.inl x2, .inl (10 : Int32), .inl (59 : Int32)]) (st := []) (rO := fun z => some (.inl z)) (mO := fun _ => z1.2) zk_X12_isIn q1464 q1463 ⟨by decide, by decide⟩ ⟨rfl, rfl⟩ rfl rfl (Nat.le_of_ble_eq_true rfl) (by decide +kernel) (fun z hz => c_X12_isIn hz) (fun v6 => ?_)
      change Sim l G Y_X12_office lim _ _ 44 [some (.inr (.inr x0)), some (.inl x1), some (.inl x2), some (.inl v5)] [.inl v6] z1.2
      refine s_if_eq (tgt := 71) (off := 27) (by decide +kernel) (by decide) (fun h7 => ?_) (fun h7 => ?_)
      · skip
        refine s_run (b := [(.iload_n 2, 1), (.bipush 60, 2), (.bipush 89, 2)]) 76 [some (.inr (.inr x0)), some (.inl x1), some (.inl x2), some (.inl v5)] [.inl (89 : Int32), .inl (60 : Int32), .inl x2] (by decide +kernel) rfl ?_
        refine s_cS (Z := Y_X12_isIn) (vs := [.inl x2, .inl (60 : Int32), .inl (89 : Int32)]) (st := []) (rO := fun z => some (.inl z)) (mO := fun _ => z1.2) zk_X12_isIn q1464 q1463 ⟨by decide, by decide⟩ ⟨rfl, rfl⟩ rfl rfl (Nat.le_of_ble_eq_true rfl) (by decide +kernel) (fun z hz => c_X12_isIn hz) (fun v8 => ?_)
        change Sim l G Y_X12_office lim _ _ 79 [some (.inr (.inr x0)), some (.inl x1), some (.inl x2), some (.inl v5)] [.inl v8] z1.2
        refine s_if_eq (tgt := 105) (off := 26) (by decide +kernel) (by decide) (fun h9 => ?_) (fun h9 => ?_)
        · skip
          refine s_run (b := [(.iconst (-1), 1)]) 106 [some (.inr (.inr x0)), some (.inl x1), some (.inl x2), some (.inl v5)] [.inl (-1 : Int32)] (by decide +kernel) rfl ?_
          exact s_iret (by decide +kernel) rfl
        · skip
          refine s_run (b := [(.aload_n 0, 1), (.iload_n 3, 1)]) 84 [some (.inr (.inr x0)), some (.inl x1), some (.inl x2), some (.inl v5)] [.inl v5, .inr (.inr x0)] (by decide +kernel) rfl ?_
          refine s_cV (Z := Y_X12_isCall) (c := 12) (vs := [.inl v5]) (st := []) (rO := fun z => some (.inl z)) (mO := fun _ => z1.2) zk_X12_isCall zi_X12_isCall q1562 rfl ⟨by decide, by decide⟩ ⟨rfl, rfl⟩ rfl rfl (Nat.le_of_ble_eq_true rfl) (by decide +kernel) (fun z hz => c_X12_isCall hz) (fun v10 => ?_)
          change Sim l G Y_X12_office lim _ _ 87 [some (.inr (.inr x0)), some (.inl x1), some (.inl x2), some (.inl v5)] [.inl v10] z1.2
          refine s_if_eq (tgt := 105) (off := 18) (by decide +kernel) (by decide) (fun h11 => ?_) (fun h11 => ?_)
          · skip
            refine s_run (b := [(.iconst (-1), 1)]) 106 [some (.inr (.inr x0)), some (.inl x1), some (.inl x2), some (.inl v5)] [.inl (-1 : Int32)] (by decide +kernel) rfl ?_
            exact s_iret (by decide +kernel) rfl
          · skip
            refine s_run (b := [(.aload_n 0, 1), (.iload_n 3, 1), (.iload_n 2, 1), (.bipush 10, 2)]) 95 [some (.inr (.inr x0)), some (.inl x1), some (.inl x2), some (.inl v5)] [.inl (10 : Int32), .inl x2, .inl v5, .inr (.inr x0)] (by decide +kernel) rfl ?_
            refine s_idiv (by decide +kernel) (fun v12 => ?_)
            refine s_run (b := [(.bipush 6, 2), (.isub, 1)]) 99 [some (.inr (.inr x0)), some (.inl x1), some (.inl x2), some (.inl v5)] [.inl (v12 - (6 : Int32)), .inl v5, .inr (.inr x0)] (by decide +kernel) rfl ?_
            refine s_cV (Z := Y_X12_ofCall) (c := 12) (vs := [.inl v5, .inl (v12 - (6 : Int32))]) (st := []) (rO := fun z => some (.inl z)) (mO := fun _ => z1.2) zk_X12_ofCall zi_X12_ofCall q1566 rfl ⟨by decide, by decide⟩ ⟨rfl, rfl⟩ rfl rfl (Nat.le_of_ble_eq_true rfl) (by decide +kernel) (fun z hz => c_X12_ofCall hz) (fun v13 => ?_)
            change Sim l G Y_X12_office lim _ _ 102 [some (.inr (.inr x0)), some (.inl x1), some (.inl x2), some (.inl v5)] [.inl v13] z1.2
            refine s_run (b := [(.goto 4, 3)]) 106 [some (.inr (.inr x0)), some (.inl x1), some (.inl x2), some (.inl v5)] [.inl v13] (by decide +kernel) rfl ?_
            exact s_iret (by decide +kernel) rfl
      · skip
        refine s_run (b := [(.aload_n 0, 1), (.iload_n 3, 1)]) 49 [some (.inr (.inr x0)), some (.inl x1), some (.inl x2), some (.inl v5)] [.inl v5, .inr (.inr x0)] (by decide +kernel) rfl ?_
        refine s_cV (Z := Y_X12_isDesk) (c := 12) (vs := [.inl v5]) (st := []) (rO := fun z => some (.inl z)) (mO := fun _ => z1.2) zk_X12_isDesk zi_X12_isDesk q1554 rfl ⟨by decide, by decide⟩ ⟨rfl, rfl⟩ rfl rfl (Nat.le_of_ble_eq_true rfl) (by decide +kernel) (fun z hz => c_X12_isDesk hz) (fun v14 => ?_)
        change Sim l G Y_X12_office lim _ _ 52 [some (.inr (.inr x0)), some (.inl x1), some (.inl x2), some (.inl v5)] [.inl v14] z1.2
        refine s_if_eq (tgt := 69) (off := 17) (by decide +kernel) (by decide) (fun h15 => ?_) (fun h15 => ?_)
        · skip
          refine s_run (b := [(.iconst (-1), 1)]) 70 [some (.inr (.inr x0)), some (.inl x1), some (.inl x2), some (.inl v5)] [.inl (-1 : Int32)] (by decide +kernel) rfl ?_
          exact s_iret (by decide +kernel) rfl
        · skip
          refine s_run (b := [(.aload_n 0, 1), (.iload_n 3, 1), (.iload_n 2, 1), (.bipush 10, 2)]) 60 [some (.inr (.inr x0)), some (.inl x1), some (.inl x2), some (.inl v5)] [.inl (10 : Int32), .inl x2, .inl v5, .inr (.inr x0)] (by decide +kernel) rfl ?_
          refine s_idiv (by decide +kernel) (fun v16 => ?_)
          refine s_run (b := [(.iconst 1, 1), (.isub, 1)]) 63 [some (.inr (.inr x0)), some (.inl x1), some (.inl x2), some (.inl v5)] [.inl (v16 - (1 : Int32)), .inl v5, .inr (.inr x0)] (by decide +kernel) rfl ?_
          refine s_cV (Z := Y_X12_of) (c := 12) (vs := [.inl v5, .inl (v16 - (1 : Int32))]) (st := []) (rO := fun z => some (.inl z)) (mO := fun _ => z1.2) zk_X12_of zi_X12_of q1558 rfl ⟨by decide, by decide⟩ ⟨rfl, rfl⟩ rfl rfl (Nat.le_of_ble_eq_true rfl) (by decide +kernel) (fun z hz => c_X12_of hz) (fun v17 => ?_)
          change Sim l G Y_X12_office lim _ _ 66 [some (.inr (.inr x0)), some (.inl x1), some (.inl x2), some (.inl v5)] [.inl v17] z1.2
          refine s_run (b := [(.goto 4, 3)]) 70 [some (.inr (.inr x0)), some (.inl x1), some (.inl x2), some (.inl v5)] [.inl v17] (by decide +kernel) rfl ?_
          exact s_iret (by decide +kernel) rfl
    · skip
      refine s_run (b := [(.aload_n 0, 1)]) 20 [some (.inr (.inr x0)), some (.inl x1), some (.inl x2), none] [.inr (.inr x0)] (by decide +kernel) rfl ?_
      refine s_gR fl_12_7 rfl (by decide +kernel) (fun v18 => ?_)
      refine s_run (b := [(.aload_n 0, 1)]) 24 [some (.inr (.inr x0)), some (.inl x1), some (.inl x2), none] [.inr (.inr x0), .inr (.inr v18)] (by decide +kernel) rfl ?_
      refine s_gI fl_12_159 rfl (by decide +kernel) (fun v19 => ?_)
      refine s_run (b := [(.iload_n 2, 1), (.iadd, 1)]) 29 [some (.inr (.inr x0)), some (.inl x1), some (.inl x2), none] [.inl (v19 + x2), .inr (.inr v18)] (by decide +kernel) rfl ?_
      refine s_ia (by decide +kernel) (fun v20 => ?_)
      exact s_iret (by decide +kernel) rfl
set_option maxRecDepth 20000 in
theorem c_X12_office {l : Launch} {G : Gv} {M : Mem} {x0 : Nat} {x1 : Int32} {x2 : Int32} {z : Int32 × Mem} (h : f_X12_office M x0 x1 x2 = some z) : MetS l G Y_X12_office [.inr (.inr x0), .inl x1, .inl x2] M (some (.int z.1)) z.2 :=
  met_of (ls0 := [some (.inr (.inr x0)), some (.inl x1), some (.inl x2), none]) (by decide) rfl (lv_in (m := 1) rfl) (sl_le (Nat.le_of_ble_eq_true rfl)) (by rw [h]; rfl) (Or.inl ⟨rfl, rfl⟩) (S_X12_office M x0 x1 x2)
def f_X12_isOrder_B10 (M : Mem) (x0 : Nat) (x2 : Int32) (x3 : Int32) (x4 : Int32) (x5 : Int32) : Option ((Int32 × Int32 × Int32 × Mem) ⊕ ((Mem) ⊕ (Mem))) :=
  (if x5 < 0 then
    some (.inr (.inr M))
  else
    (gR M 12 x0 39).bind fun v2 =>
    (rmI x3 x2).bind fun v3 =>
    (sI M 0 v2 x5 v3).bind fun M4 =>
    (dvI x3 x2).bind fun v5 =>
    (gR M4 12 x0 39).bind fun v6 =>
    (aI M4 0 v6 x5).bind fun v7 =>
    (f_X12_holds M4 x4 v7).bind fun v8 =>
    (if v8 = 0 then
      (gR M4 12 x0 39).bind fun v10 =>
      (aI M4 0 v10 x5).bind fun v11 =>
      some (.inl (v5, (x4 ||| ((1 : Int32) <<< (v11 &&& 31))), (x5 + Int32.ofInt (-1)), M4))
    else
      some (.inr (.inl M4))))
def f_X12_isOrder_L10 (M : Mem) (x0 : Nat) (x2 : Int32) (x3 : Int32) (x4 : Int32) (x5 : Int32) : Option ((Mem) ⊕ (Mem)) := iter (fun s : Int32 × Int32 × Int32 × Mem => f_X12_isOrder_B10 s.2.2.2 x0 x2 s.1 s.2.1 s.2.2.1) 1048576 (x3, x4, x5, M)
set_option maxRecDepth 20000 in
theorem B_X12_isOrder_10 {l : Launch} {G : Gv} {lim : Nat × Nat} (M : Mem) (x0 : Nat) (x2 : Int32) (x3 : Int32) (x4 : Int32) (x5 : Int32) (K : (Int32 × Int32 × Int32 × Mem) ⊕ ((Mem) ⊕ (Mem)) → Option (Option Value × Mem)) (kk1 : ∀ (s3 : Int32) (s4 : Int32) (s5 : Int32) (s_ : Mem), SimR l G Y_X12_isOrder lim (K (.inl (s3, s4, s5, s_))) 10 [some (.inr (.inr x0)), none, some (.inl x2), some (.inl s3), some (.inl s4), some (.inl s5)] [] s_) (kk2_0 : ∀ (s_ : Mem), SimR l G Y_X12_isOrder lim (K (.inr (.inl s_))) 44 [none, none, none, none, none, none] [] s_) (kk2_1 : ∀ (s_ : Mem), SimR l G Y_X12_isOrder lim (K (.inr (.inr s_))) 66 [none, none, none, none, none, none] [] s_) : Sim l G Y_X12_isOrder lim (f_X12_isOrder_B10 M x0 x2 x3 x4 x5) K 10 [some (.inr (.inr x0)), none, some (.inl x2), some (.inl x3), some (.inl x4), some (.inl x5)] [] M := by
  unfold f_X12_isOrder_B10
  refine s_run (b := [(.iload 5, 2)]) 12 [some (.inr (.inr x0)), none, some (.inl x2), some (.inl x3), some (.inl x4), some (.inl x5)] [.inl x5] (by decide +kernel) rfl ?_
  refine s_if_lt (tgt := 66) (off := 54) (by decide +kernel) (by decide) (fun h1 => ?_) (fun h1 => ?_)
  · skip
    exact s_lsub (ls' := [none, none, none, none, none, none]) trivial (kk2_1 M)
  · skip
    refine s_run (b := [(.aload_n 0, 1)]) 16 [some (.inr (.inr x0)), none, some (.inl x2), some (.inl x3), some (.inl x4), some (.inl x5)] [.inr (.inr x0)] (by decide +kernel) rfl ?_
    refine s_gR fl_12_42 rfl (by decide +kernel) (fun v2 => ?_)
    refine s_run (b := [(.iload 5, 2), (.iload_n 3, 1), (.iload_n 2, 1)]) 23 [some (.inr (.inr x0)), none, some (.inl x2), some (.inl x3), some (.inl x4), some (.inl x5)] [.inl x2, .inl x3, .inl x5, .inr (.inr v2)] (by decide +kernel) rfl ?_
    refine s_irem (by decide +kernel) (fun v3 => ?_)
    refine s_is (by decide +kernel) (fun M4 => ?_)
    refine s_run (b := [(.iload_n 3, 1), (.iload_n 2, 1)]) 27 [some (.inr (.inr x0)), none, some (.inl x2), some (.inl x3), some (.inl x4), some (.inl x5)] [.inl x2, .inl x3] (by decide +kernel) rfl ?_
    refine s_idiv (by decide +kernel) (fun v5 => ?_)
    refine s_run (b := [(.istore_n 3, 1), (.iload 4, 2), (.aload_n 0, 1)]) 32 [some (.inr (.inr x0)), none, some (.inl x2), some (.inl v5), some (.inl x4), some (.inl x5)] [.inr (.inr x0), .inl x4] (by decide +kernel) rfl ?_
    refine s_gR fl_12_42 rfl (by decide +kernel) (fun v6 => ?_)
    refine s_run (b := [(.iload 5, 2)]) 37 [some (.inr (.inr x0)), none, some (.inl x2), some (.inl v5), some (.inl x4), some (.inl x5)] [.inl x5, .inr (.inr v6), .inl x4] (by decide +kernel) rfl ?_
    refine s_ia (by decide +kernel) (fun v7 => ?_)
    refine s_cS (Z := Y_X12_holds) (vs := [.inl x4, .inl v7]) (st := []) (rO := fun z => some (.inl z)) (mO := fun _ => M4) zk_X12_holds q1599 q1598 ⟨by decide, by decide⟩ ⟨rfl, rfl⟩ rfl rfl (Nat.le_of_ble_eq_true rfl) (by decide +kernel) (fun z hz => c_X12_holds hz) (fun v8 => ?_)
    change Sim l G Y_X12_isOrder lim _ _ 41 [some (.inr (.inr x0)), none, some (.inl x2), some (.inl v5), some (.inl x4), some (.inl x5)] [.inl v8] M4
    refine s_if_eq (tgt := 46) (off := 5) (by decide +kernel) (by decide) (fun h9 => ?_) (fun h9 => ?_)
    · skip
      refine s_run (b := [(.iload 4, 2), (.iconst 1, 1), (.aload_n 0, 1)]) 50 [some (.inr (.inr x0)), none, some (.inl x2), some (.inl v5), some (.inl x4), some (.inl x5)] [.inr (.inr x0), .inl (1 : Int32), .inl x4] (by decide +kernel) rfl ?_
      refine s_gR fl_12_42 rfl (by decide +kernel) (fun v10 => ?_)
      refine s_run (b := [(.iload 5, 2)]) 55 [some (.inr (.inr x0)), none, some (.inl x2), some (.inl v5), some (.inl x4), some (.inl x5)] [.inl x5, .inr (.inr v10), .inl (1 : Int32), .inl x4] (by decide +kernel) rfl ?_
      refine s_ia (by decide +kernel) (fun v11 => ?_)
      refine s_run (b := [(.ishl, 1), (.ior, 1), (.istore 4, 2), (.iinc 5 (-1), 3), (.goto (-53), 3)]) 10 [some (.inr (.inr x0)), none, some (.inl x2), some (.inl v5), some (.inl (x4 ||| ((1 : Int32) <<< (v11 &&& 31)))), some (.inl (x5 + Int32.ofInt (-1)))] [] (by decide +kernel) rfl ?_
      exact s_lsub (ls' := [some (.inr (.inr x0)), none, some (.inl x2), some (.inl v5), some (.inl (x4 ||| ((1 : Int32) <<< (v11 &&& 31)))), some (.inl (x5 + Int32.ofInt (-1)))]) ⟨rfl, ⟨rfl, ⟨rfl, ⟨rfl, ⟨rfl, trivial⟩⟩⟩⟩⟩ (kk1 v5 (x4 ||| ((1 : Int32) <<< (v11 &&& 31))) (x5 + Int32.ofInt (-1)) M4)
    · skip
      exact s_lsub (ls' := [none, none, none, none, none, none]) trivial (kk2_0 M4)
set_option maxRecDepth 20000 in
theorem L_X12_isOrder_10 {l : Launch} {G : Gv} {lim : Nat × Nat} (M : Mem) (x0 : Nat) (x2 : Int32) (x3 : Int32) (x4 : Int32) (x5 : Int32) (K : ((Mem) ⊕ (Mem)) → Option (Option Value × Mem)) (kk2_0 : ∀ r : Mem, SimR l G Y_X12_isOrder lim (K (.inl r)) 44 [none, none, none, none, none, none] [] r) (kk2_1 : ∀ r : Mem, SimR l G Y_X12_isOrder lim (K (.inr r)) 66 [none, none, none, none, none, none] [] r) : Sim l G Y_X12_isOrder lim (f_X12_isOrder_L10 M x0 x2 x3 x4 x5) K 10 [some (.inr (.inr x0)), none, some (.inl x2), some (.inl x3), some (.inl x4), some (.inl x5)] [] M :=
  s_iter (f := fun s : Int32 × Int32 × Int32 × Mem => f_X12_isOrder_B10 s.2.2.2 x0 x2 s.1 s.2.1 s.2.2.1) (hd := 10) (cl := fun s => [some (.inr (.inr x0)), none, some (.inl x2), some (.inl s.1), some (.inl s.2.1), some (.inl s.2.2.1)]) (cm := fun s => s.2.2.2) (xp := (fun r => match r with | .inl r => 44 | .inr r => 66)) (xl := (fun r => match r with | .inl r => [none, none, none, none, none, none] | .inr r => [none, none, none, none, none, none])) (xm := (fun r => match r with | .inl r => r | .inr r => r)) (fun s K h1 h2 => B_X12_isOrder_10 s.2.2.2 x0 x2 s.1 s.2.1 s.2.2.1 K (fun a3 a4 a5 a_ => h1 (a3, a4, a5, a_)) (fun a_ => h2 (.inl a_)) (fun a_ => h2 (.inr a_))) 1048576 (x3, x4, x5, M) K (fun r => by
    rcases r with r | r
    · exact kk2_0 r
    · exact kk2_1 r)
def f_X12_isOrder (M : Mem) (x0 : Nat) (x1 : Int32) (x2 : Int32) : Option (Int32 × Mem) :=
  ((f_X12_isOrder_L10 M x0 x2 x1 (0 : Int32) (x2 - (1 : Int32))).bind fun r1 => match r1 with
  | .inl r1 => some ((0 : Int32), r1)
  | .inr r1 => some ((1 : Int32), r1))
set_option maxRecDepth 20000 in
theorem S_X12_isOrder {l : Launch} {G : Gv} {lim : Nat × Nat} (M : Mem) (x0 : Nat) (x1 : Int32) (x2 : Int32) : Sim l G Y_X12_isOrder lim (f_X12_isOrder M x0 x1 x2) (fun z => some (some (.int z.1), z.2)) 0 [some (.inr (.inr x0)), some (.inl x1), some (.inl x2), none, none, none] [] M := by
  unfold f_X12_isOrder
  refine s_run (b := [(.iload_n 1, 1), (.istore_n 3, 1), (.iconst 0, 1), (.istore 4, 2), (.iload_n 2, 1), (.iconst 1, 1), (.isub, 1), (.istore 5, 2)]) 10 [some (.inr (.inr x0)), some (.inl x1), some (.inl x2), some (.inl x1), some (.inl (0 : Int32)), some (.inl (x2 - (1 : Int32)))] [] (by decide +kernel) rfl ?_
  refine s_lsub (ls' := [some (.inr (.inr x0)), none, some (.inl x2), some (.inl x1), some (.inl (0 : Int32)), some (.inl (x2 - (1 : Int32)))]) ⟨rfl, ⟨rfl, ⟨rfl, ⟨rfl, ⟨rfl, trivial⟩⟩⟩⟩⟩ ?_
  refine sim_bind (L_X12_isOrder_10 M x0 x2 x1 (0 : Int32) (x2 - (1 : Int32)) _ (fun r1 => ?_) (fun r1 => ?_))
  · change Sim l G Y_X12_isOrder lim _ _ 44 [none, none, none, none, none, none] [] r1
    refine s_run (b := [(.iconst 0, 1)]) 45 [none, none, none, none, none, none] [.inl (0 : Int32)] (by decide +kernel) rfl ?_
    exact s_bret (Or.inl rfl) (by decide +kernel) rfl
  · change Sim l G Y_X12_isOrder lim _ _ 66 [none, none, none, none, none, none] [] r1
    refine s_run (b := [(.iconst 1, 1)]) 67 [none, none, none, none, none, none] [.inl (1 : Int32)] (by decide +kernel) rfl ?_
    exact s_bret (Or.inr rfl) (by decide +kernel) rfl
set_option maxRecDepth 20000 in
theorem c_X12_isOrder {l : Launch} {G : Gv} {M : Mem} {x0 : Nat} {x1 : Int32} {x2 : Int32} {z : Int32 × Mem} (h : f_X12_isOrder M x0 x1 x2 = some z) : MetS l G Y_X12_isOrder [.inr (.inr x0), .inl x1, .inl x2] M (some (.int z.1)) z.2 :=
  met_of (ls0 := [some (.inr (.inr x0)), some (.inl x1), some (.inl x2), none, none, none]) (by decide) rfl (lv_in (m := 3) rfl) (sl_le (Nat.le_of_ble_eq_true rfl)) (by rw [h]; rfl) (Or.inl ⟨rfl, rfl⟩) (S_X12_isOrder M x0 x1 x2)
def f_X12_order_B44 (M : Mem) (x0 : Nat) (x2 : Int32) (x3 : Int32) (x4 : Int32) (x5 : Int32) : Option ((Int32 × Int32) ⊕ ((Int32))) :=
  (if x2 ≤ x5 then
    some (.inr x4)
  else
    some (.inl ((x4 * x2), (x5 + (1 : Int32)))))
def f_X12_order_L44 (M : Mem) (x0 : Nat) (x2 : Int32) (x3 : Int32) (x4 : Int32) (x5 : Int32) : Option ((Int32)) := iter (fun s : Int32 × Int32 => f_X12_order_B44 M x0 x2 x3 s.1 s.2) 1048576 (x4, x5)
set_option maxRecDepth 20000 in
theorem B_X12_order_44 {l : Launch} {G : Gv} {lim : Nat × Nat} (M : Mem) (x0 : Nat) (x2 : Int32) (x3 : Int32) (x4 : Int32) (x5 : Int32) (K : (Int32 × Int32) ⊕ ((Int32)) → Option (Option Value × Mem)) (kk1 : ∀ (s4 : Int32) (s5 : Int32), SimR l G Y_X12_order lim (K (.inl (s4, s5))) 44 [some (.inr (.inr x0)), none, some (.inl x2), some (.inl x3), some (.inl s4), some (.inl s5), none, none] [] M) (kk2_0 : ∀ (s4 : Int32), SimR l G Y_X12_order lim (K (.inr s4)) 62 [some (.inr (.inr x0)), none, some (.inl x2), some (.inl x3), some (.inl s4), none, none, none] [] M) : Sim l G Y_X12_order lim (f_X12_order_B44 M x0 x2 x3 x4 x5) K 44 [some (.inr (.inr x0)), none, some (.inl x2), some (.inl x3), some (.inl x4), some (.inl x5), none, none] [] M := by
  unfold f_X12_order_B44
  refine s_run (b := [(.iload 5, 2), (.iload_n 2, 1)]) 47 [some (.inr (.inr x0)), none, some (.inl x2), some (.inl x3), some (.inl x4), some (.inl x5), none, none] [.inl x2, .inl x5] (by decide +kernel) rfl ?_
  refine s_ic_ge (tgt := 62) (off := 15) (by decide +kernel) (by decide) (fun h1 => ?_) (fun h1 => ?_)
  · skip
    exact s_lsub (ls' := [some (.inr (.inr x0)), none, some (.inl x2), some (.inl x3), some (.inl x4), none, none, none]) ⟨rfl, ⟨rfl, ⟨rfl, ⟨rfl, trivial⟩⟩⟩⟩ (kk2_0 x4)
  · skip
    refine s_run (b := [(.iload 4, 2), (.iload_n 2, 1), (.imul, 1), (.istore 4, 2), (.iinc 5 1, 3), (.goto (-15), 3)]) 44 [some (.inr (.inr x0)), none, some (.inl x2), some (.inl x3), some (.inl (x4 * x2)), some (.inl (x5 + (1 : Int32))), none, none] [] (by decide +kernel) rfl ?_
    exact s_lsub (ls' := [some (.inr (.inr x0)), none, some (.inl x2), some (.inl x3), some (.inl (x4 * x2)), some (.inl (x5 + (1 : Int32))), none, none]) ⟨rfl, ⟨rfl, ⟨rfl, ⟨rfl, ⟨rfl, trivial⟩⟩⟩⟩⟩ (kk1 (x4 * x2) (x5 + (1 : Int32)))
set_option maxRecDepth 20000 in
theorem L_X12_order_44 {l : Launch} {G : Gv} {lim : Nat × Nat} (M : Mem) (x0 : Nat) (x2 : Int32) (x3 : Int32) (x4 : Int32) (x5 : Int32) (K : ((Int32)) → Option (Option Value × Mem)) (kk2_0 : ∀ r : Int32, SimR l G Y_X12_order lim (K r) 62 [some (.inr (.inr x0)), none, some (.inl x2), some (.inl x3), some (.inl r), none, none, none] [] M) : Sim l G Y_X12_order lim (f_X12_order_L44 M x0 x2 x3 x4 x5) K 44 [some (.inr (.inr x0)), none, some (.inl x2), some (.inl x3), some (.inl x4), some (.inl x5), none, none] [] M :=
  s_iter (f := fun s : Int32 × Int32 => f_X12_order_B44 M x0 x2 x3 s.1 s.2) (hd := 44) (cl := fun s => [some (.inr (.inr x0)), none, some (.inl x2), some (.inl x3), some (.inl s.1), some (.inl s.2), none, none]) (cm := fun s => M) (xp := fun _ => 62) (xl := fun r => [some (.inr (.inr x0)), none, some (.inl x2), some (.inl x3), some (.inl r), none, none, none]) (xm := fun r => M) (fun s K h1 h2 => B_X12_order_44 M x0 x2 x3 s.1 s.2 K (fun a4 a5 => h1 (a4, a5)) (fun a4 => h2 a4)) 1048576 (x4, x5) K kk2_0
def f_X12_order_B95 (M : Mem) (x0 : Nat) (x2 : Int32) (x3 : Int32) (x4 : Int32) (x5 : Int32) (x6 : Int32) (x7 : Int32) : Option ((Int32 × Mem) ⊕ ((Mem))) :=
  (if x2 ≤ x7 then
    some (.inr M)
  else
    (gR M 12 x0 39).bind fun v2 =>
    (aI M 0 v2 x7).bind fun v3 =>
    (ob M 12 x0).bind fun _ => (f_X12_ruled M x0 (0 : Int32) v3).bind fun z4 =>
    some (.inl ((x7 + (1 : Int32)), z4)))
def f_X12_order_L95 (M : Mem) (x0 : Nat) (x2 : Int32) (x3 : Int32) (x4 : Int32) (x5 : Int32) (x6 : Int32) (x7 : Int32) : Option ((Mem)) := iter (fun s : Int32 × Mem => f_X12_order_B95 s.2 x0 x2 x3 x4 x5 x6 s.1) 1048576 (x7, M)
set_option maxRecDepth 20000 in
theorem B_X12_order_95 {l : Launch} {G : Gv} {lim : Nat × Nat} (M : Mem) (x0 : Nat) (x2 : Int32) (x3 : Int32) (x4 : Int32) (x5 : Int32) (x6 : Int32) (x7 : Int32) (K : (Int32 × Mem) ⊕ ((Mem)) → Option (Option Value × Mem)) (kk1 : ∀ (s7 : Int32) (s_ : Mem), SimR l G Y_X12_order lim (K (.inl (s7, s_))) 95 [some (.inr (.inr x0)), none, some (.inl x2), some (.inl x3), some (.inl x4), some (.inl x5), some (.inl x6), some (.inl s7)] [] s_) (kk2_0 : ∀ (s_ : Mem), SimR l G Y_X12_order lim (K (.inr s_)) 119 [some (.inr (.inr x0)), none, some (.inl x2), some (.inl x3), some (.inl x4), some (.inl x5), some (.inl x6), none] [] s_) : Sim l G Y_X12_order lim (f_X12_order_B95 M x0 x2 x3 x4 x5 x6 x7) K 95 [some (.inr (.inr x0)), none, some (.inl x2), some (.inl x3), some (.inl x4), some (.inl x5), some (.inl x6), some (.inl x7)] [] M := by
  unfold f_X12_order_B95
  refine s_run (b := [(.iload 7, 2), (.iload_n 2, 1)]) 98 [some (.inr (.inr x0)), none, some (.inl x2), some (.inl x3), some (.inl x4), some (.inl x5), some (.inl x6), some (.inl x7)] [.inl x2, .inl x7] (by decide +kernel) rfl ?_
  refine s_ic_ge (tgt := 119) (off := 21) (by decide +kernel) (by decide) (fun h1 => ?_) (fun h1 => ?_)
  · skip
    exact s_lsub (ls' := [some (.inr (.inr x0)), none, some (.inl x2), some (.inl x3), some (.inl x4), some (.inl x5), some (.inl x6), none]) ⟨rfl, ⟨rfl, ⟨rfl, ⟨rfl, ⟨rfl, ⟨rfl, trivial⟩⟩⟩⟩⟩⟩ (kk2_0 M)
  · skip
    refine s_run (b := [(.aload_n 0, 1), (.iconst 0, 1), (.aload_n 0, 1)]) 104 [some (.inr (.inr x0)), none, some (.inl x2), some (.inl x3), some (.inl x4), some (.inl x5), some (.inl x6), some (.inl x7)] [.inr (.inr x0), .inl (0 : Int32), .inr (.inr x0)] (by decide +kernel) rfl ?_
    refine s_gR fl_12_42 rfl (by decide +kernel) (fun v2 => ?_)
    refine s_run (b := [(.iload 7, 2)]) 109 [some (.inr (.inr x0)), none, some (.inl x2), some (.inl x3), some (.inl x4), some (.inl x5), some (.inl x6), some (.inl x7)] [.inl x7, .inr (.inr v2), .inl (0 : Int32), .inr (.inr x0)] (by decide +kernel) rfl ?_
    refine s_ia (by decide +kernel) (fun v3 => ?_)
    refine s_cV (Z := Y_X12_ruled) (c := 12) (vs := [.inl (0 : Int32), .inl v3]) (st := []) (rO := fun _ => none) (mO := fun z => z) zk_X12_ruled zi_X12_ruled q1791 rfl ⟨by decide, by decide⟩ ⟨rfl, rfl⟩ rfl rfl (Nat.le_of_ble_eq_true rfl) (by decide +kernel) (fun z hz => c_X12_ruled hz) (fun z4 => ?_)
    change Sim l G Y_X12_order lim _ _ 113 [some (.inr (.inr x0)), none, some (.inl x2), some (.inl x3), some (.inl x4), some (.inl x5), some (.inl x6), some (.inl x7)] [] z4
    refine s_run (b := [(.iinc 7 1, 3), (.goto (-21), 3)]) 95 [some (.inr (.inr x0)), none, some (.inl x2), some (.inl x3), some (.inl x4), some (.inl x5), some (.inl x6), some (.inl (x7 + (1 : Int32)))] [] (by decide +kernel) rfl ?_
    exact s_lsub (ls' := [some (.inr (.inr x0)), none, some (.inl x2), some (.inl x3), some (.inl x4), some (.inl x5), some (.inl x6), some (.inl (x7 + (1 : Int32)))]) ⟨rfl, ⟨rfl, ⟨rfl, ⟨rfl, ⟨rfl, ⟨rfl, ⟨rfl, trivial⟩⟩⟩⟩⟩⟩⟩ (kk1 (x7 + (1 : Int32)) z4)
set_option maxRecDepth 20000 in
theorem L_X12_order_95 {l : Launch} {G : Gv} {lim : Nat × Nat} (M : Mem) (x0 : Nat) (x2 : Int32) (x3 : Int32) (x4 : Int32) (x5 : Int32) (x6 : Int32) (x7 : Int32) (K : ((Mem)) → Option (Option Value × Mem)) (kk2_0 : ∀ r : Mem, SimR l G Y_X12_order lim (K r) 119 [some (.inr (.inr x0)), none, some (.inl x2), some (.inl x3), some (.inl x4), some (.inl x5), some (.inl x6), none] [] r) : Sim l G Y_X12_order lim (f_X12_order_L95 M x0 x2 x3 x4 x5 x6 x7) K 95 [some (.inr (.inr x0)), none, some (.inl x2), some (.inl x3), some (.inl x4), some (.inl x5), some (.inl x6), some (.inl x7)] [] M :=
  s_iter (f := fun s : Int32 × Mem => f_X12_order_B95 s.2 x0 x2 x3 x4 x5 x6 s.1) (hd := 95) (cl := fun s => [some (.inr (.inr x0)), none, some (.inl x2), some (.inl x3), some (.inl x4), some (.inl x5), some (.inl x6), some (.inl s.1)]) (cm := fun s => s.2) (xp := fun _ => 119) (xl := fun r => [some (.inr (.inr x0)), none, some (.inl x2), some (.inl x3), some (.inl x4), some (.inl x5), some (.inl x6), none]) (xm := fun r => r) (fun s K h1 h2 => B_X12_order_95 s.2 x0 x2 x3 x4 x5 x6 s.1 K (fun a7 a_ => h1 (a7, a_)) (fun a_ => h2 a_)) 1048576 (x7, M) K kk2_0
def f_X12_order_B140 (M : Mem) (x0 : Nat) (x2 : Int32) (x3 : Int32) (x4 : Int32) (x5 : Int32) (x6 : Int32) (x7 : Int32) : Option ((Int32 × Mem) ⊕ ((Mem))) :=
  (if x2 ≤ x7 then
    some (.inr M)
  else
    (gR M 12 x0 40).bind fun v2 =>
    (gR M 12 x0 39).bind fun v3 =>
    (aI M 0 v3 x7).bind fun v4 =>
    (sI M 0 v2 x7 v4).bind fun M5 =>
    some (.inl ((x7 + (1 : Int32)), M5)))
def f_X12_order_L140 (M : Mem) (x0 : Nat) (x2 : Int32) (x3 : Int32) (x4 : Int32) (x5 : Int32) (x6 : Int32) (x7 : Int32) : Option ((Mem)) := iter (fun s : Int32 × Mem => f_X12_order_B140 s.2 x0 x2 x3 x4 x5 x6 s.1) 1048576 (x7, M)
set_option maxRecDepth 20000 in
theorem B_X12_order_140 {l : Launch} {G : Gv} {lim : Nat × Nat} (M : Mem) (x0 : Nat) (x2 : Int32) (x3 : Int32) (x4 : Int32) (x5 : Int32) (x6 : Int32) (x7 : Int32) (K : (Int32 × Mem) ⊕ ((Mem)) → Option (Option Value × Mem)) (kk1 : ∀ (s7 : Int32) (s_ : Mem), SimR l G Y_X12_order lim (K (.inl (s7, s_))) 140 [some (.inr (.inr x0)), none, some (.inl x2), some (.inl x3), some (.inl x4), some (.inl x5), some (.inl x6), some (.inl s7)] [] s_) (kk2_0 : ∀ (s_ : Mem), SimR l G Y_X12_order lim (K (.inr s_)) 166 [some (.inr (.inr x0)), none, some (.inl x2), some (.inl x3), some (.inl x4), some (.inl x5), some (.inl x6), none] [] s_) : Sim l G Y_X12_order lim (f_X12_order_B140 M x0 x2 x3 x4 x5 x6 x7) K 140 [some (.inr (.inr x0)), none, some (.inl x2), some (.inl x3), some (.inl x4), some (.inl x5), some (.inl x6), some (.inl x7)] [] M := by
  unfold f_X12_order_B140
  refine s_run (b := [(.iload 7, 2), (.iload_n 2, 1)]) 143 [some (.inr (.inr x0)), none, some (.inl x2), some (.inl x3), some (.inl x4), some (.inl x5), some (.inl x6), some (.inl x7)] [.inl x2, .inl x7] (by decide +kernel) rfl ?_
  refine s_ic_ge (tgt := 166) (off := 23) (by decide +kernel) (by decide) (fun h1 => ?_) (fun h1 => ?_)
  · skip
    exact s_lsub (ls' := [some (.inr (.inr x0)), none, some (.inl x2), some (.inl x3), some (.inl x4), some (.inl x5), some (.inl x6), none]) ⟨rfl, ⟨rfl, ⟨rfl, ⟨rfl, ⟨rfl, ⟨rfl, trivial⟩⟩⟩⟩⟩⟩ (kk2_0 M)
  · skip
    refine s_run (b := [(.aload_n 0, 1)]) 147 [some (.inr (.inr x0)), none, some (.inl x2), some (.inl x3), some (.inl x4), some (.inl x5), some (.inl x6), some (.inl x7)] [.inr (.inr x0)] (by decide +kernel) rfl ?_
    refine s_gR fl_12_45 rfl (by decide +kernel) (fun v2 => ?_)
    refine s_run (b := [(.iload 7, 2), (.aload_n 0, 1)]) 153 [some (.inr (.inr x0)), none, some (.inl x2), some (.inl x3), some (.inl x4), some (.inl x5), some (.inl x6), some (.inl x7)] [.inr (.inr x0), .inl x7, .inr (.inr v2)] (by decide +kernel) rfl ?_
    refine s_gR fl_12_42 rfl (by decide +kernel) (fun v3 => ?_)
    refine s_run (b := [(.iload 7, 2)]) 158 [some (.inr (.inr x0)), none, some (.inl x2), some (.inl x3), some (.inl x4), some (.inl x5), some (.inl x6), some (.inl x7)] [.inl x7, .inr (.inr v3), .inl x7, .inr (.inr v2)] (by decide +kernel) rfl ?_
    refine s_ia (by decide +kernel) (fun v4 => ?_)
    refine s_is (by decide +kernel) (fun M5 => ?_)
    refine s_run (b := [(.iinc 7 1, 3), (.goto (-23), 3)]) 140 [some (.inr (.inr x0)), none, some (.inl x2), some (.inl x3), some (.inl x4), some (.inl x5), some (.inl x6), some (.inl (x7 + (1 : Int32)))] [] (by decide +kernel) rfl ?_
    exact s_lsub (ls' := [some (.inr (.inr x0)), none, some (.inl x2), some (.inl x3), some (.inl x4), some (.inl x5), some (.inl x6), some (.inl (x7 + (1 : Int32)))]) ⟨rfl, ⟨rfl, ⟨rfl, ⟨rfl, ⟨rfl, ⟨rfl, ⟨rfl, trivial⟩⟩⟩⟩⟩⟩⟩ (kk1 (x7 + (1 : Int32)) M5)
set_option maxRecDepth 20000 in
theorem L_X12_order_140 {l : Launch} {G : Gv} {lim : Nat × Nat} (M : Mem) (x0 : Nat) (x2 : Int32) (x3 : Int32) (x4 : Int32) (x5 : Int32) (x6 : Int32) (x7 : Int32) (K : ((Mem)) → Option (Option Value × Mem)) (kk2_0 : ∀ r : Mem, SimR l G Y_X12_order lim (K r) 166 [some (.inr (.inr x0)), none, some (.inl x2), some (.inl x3), some (.inl x4), some (.inl x5), some (.inl x6), none] [] r) : Sim l G Y_X12_order lim (f_X12_order_L140 M x0 x2 x3 x4 x5 x6 x7) K 140 [some (.inr (.inr x0)), none, some (.inl x2), some (.inl x3), some (.inl x4), some (.inl x5), some (.inl x6), some (.inl x7)] [] M :=
  s_iter (f := fun s : Int32 × Mem => f_X12_order_B140 s.2 x0 x2 x3 x4 x5 x6 s.1) (hd := 140) (cl := fun s => [some (.inr (.inr x0)), none, some (.inl x2), some (.inl x3), some (.inl x4), some (.inl x5), some (.inl x6), some (.inl s.1)]) (cm := fun s => s.2) (xp := fun _ => 166) (xl := fun r => [some (.inr (.inr x0)), none, some (.inl x2), some (.inl x3), some (.inl x4), some (.inl x5), some (.inl x6), none]) (xm := fun r => r) (fun s K h1 h2 => B_X12_order_140 s.2 x0 x2 x3 x4 x5 x6 s.1 K (fun a7 a_ => h1 (a7, a_)) (fun a_ => h2 a_)) 1048576 (x7, M) K kk2_0
def f_X12_order_B68 (M : Mem) (x0 : Nat) (x2 : Int32) (x3 : Int32) (x4 : Int32) (x5 : Int32) (x6 : Int32) : Option ((Int32 × Int32 × Mem) ⊕ ((Int32 × Mem))) :=
  (if x4 ≤ x6 then
    some (.inr (x5, M))
  else
    (ob M 12 x0).bind fun _ => (f_X12_isOrder M x0 x6 x2).bind fun z2 =>
    (if z2.1 = 0 then
      some (.inl (x5, (x6 + (1 : Int32)), z2.2))
    else
      (ob z2.2 12 x0).bind fun _ => (f_X12_beginsRule z2.2 x0).bind fun z4 =>
      (f_X12_order_L95 z4 x0 x2 x3 x4 x5 x6 (0 : Int32)).bind fun r5 =>
      (gI r5 12 x0 24).bind fun v6 =>
      (if x5 < v6 then
        (gI r5 12 x0 24).bind fun v8 =>
        (f_X12_order_L140 r5 x0 x2 x3 x4 v8 x6 (0 : Int32)).bind fun r9 =>
        some (.inl (v8, (x6 + (1 : Int32)), r9))
      else
        some (.inl (x5, (x6 + (1 : Int32)), r5)))))
def f_X12_order_L68 (M : Mem) (x0 : Nat) (x2 : Int32) (x3 : Int32) (x4 : Int32) (x5 : Int32) (x6 : Int32) : Option ((Int32 × Mem)) := iter (fun s : Int32 × Int32 × Mem => f_X12_order_B68 s.2.2 x0 x2 x3 x4 s.1 s.2.1) 1048576 (x5, x6, M)
set_option maxRecDepth 20000 in
theorem B_X12_order_68 {l : Launch} {G : Gv} {lim : Nat × Nat} (M : Mem) (x0 : Nat) (x2 : Int32) (x3 : Int32) (x4 : Int32) (x5 : Int32) (x6 : Int32) (K : (Int32 × Int32 × Mem) ⊕ ((Int32 × Mem)) → Option (Option Value × Mem)) (kk1 : ∀ (s5 : Int32) (s6 : Int32) (s_ : Mem), SimR l G Y_X12_order lim (K (.inl (s5, s6, s_))) 68 [some (.inr (.inr x0)), none, some (.inl x2), some (.inl x3), some (.inl x4), some (.inl s5), some (.inl s6), none] [] s_) (kk2_0 : ∀ (s5 : Int32) (s_ : Mem), SimR l G Y_X12_order lim (K (.inr (s5, s_))) 172 [some (.inr (.inr x0)), none, none, some (.inl x3), none, some (.inl s5), none, none] [] s_) : Sim l G Y_X12_order lim (f_X12_order_B68 M x0 x2 x3 x4 x5 x6) K 68 [some (.inr (.inr x0)), none, some (.inl x2), some (.inl x3), some (.inl x4), some (.inl x5), some (.inl x6), none] [] M := by
  unfold f_X12_order_B68
  refine s_run (b := [(.iload 6, 2), (.iload 4, 2)]) 72 [some (.inr (.inr x0)), none, some (.inl x2), some (.inl x3), some (.inl x4), some (.inl x5), some (.inl x6), none] [.inl x4, .inl x6] (by decide +kernel) rfl ?_
  refine s_ic_ge (tgt := 172) (off := 100) (by decide +kernel) (by decide) (fun h1 => ?_) (fun h1 => ?_)
  · skip
    exact s_lsub (ls' := [some (.inr (.inr x0)), none, none, some (.inl x3), none, some (.inl x5), none, none]) ⟨rfl, ⟨rfl, ⟨rfl, trivial⟩⟩⟩ (kk2_0 x5 M)
  · skip
    refine s_run (b := [(.aload_n 0, 1), (.iload 6, 2), (.iload_n 2, 1)]) 79 [some (.inr (.inr x0)), none, some (.inl x2), some (.inl x3), some (.inl x4), some (.inl x5), some (.inl x6), none] [.inl x2, .inl x6, .inr (.inr x0)] (by decide +kernel) rfl ?_
    refine s_cV (Z := Y_X12_isOrder) (c := 12) (vs := [.inl x6, .inl x2]) (st := []) (rO := fun z => some (.inl z.1)) (mO := fun z => z.2) zk_X12_isOrder zi_X12_isOrder q1815 rfl ⟨by decide, by decide⟩ ⟨rfl, rfl⟩ rfl rfl (Nat.le_of_ble_eq_true rfl) (by decide +kernel) (fun z hz => c_X12_isOrder hz) (fun z2 => ?_)
    change Sim l G Y_X12_order lim _ _ 82 [some (.inr (.inr x0)), none, some (.inl x2), some (.inl x3), some (.inl x4), some (.inl x5), some (.inl x6), none] [.inl z2.1] z2.2
    refine s_if_ne (tgt := 88) (off := 6) (by decide +kernel) (by decide) (fun h3 => ?_) (fun h3 => ?_)
    · skip
      refine s_run (b := [(.goto 81, 3), (.iinc 6 1, 3), (.goto (-101), 3)]) 68 [some (.inr (.inr x0)), none, some (.inl x2), some (.inl x3), some (.inl x4), some (.inl x5), some (.inl (x6 + (1 : Int32))), none] [] (by decide +kernel) rfl ?_
      exact s_lsub (ls' := [some (.inr (.inr x0)), none, some (.inl x2), some (.inl x3), some (.inl x4), some (.inl x5), some (.inl (x6 + (1 : Int32))), none]) ⟨rfl, ⟨rfl, ⟨rfl, ⟨rfl, ⟨rfl, ⟨rfl, trivial⟩⟩⟩⟩⟩⟩ (kk1 x5 (x6 + (1 : Int32)) z2.2)
    · skip
      refine s_run (b := [(.aload_n 0, 1)]) 89 [some (.inr (.inr x0)), none, some (.inl x2), some (.inl x3), some (.inl x4), some (.inl x5), some (.inl x6), none] [.inr (.inr x0)] (by decide +kernel) rfl ?_
      refine s_cV (Z := Y_X12_beginsRule) (c := 12) (vs := []) (st := []) (rO := fun _ => none) (mO := fun z => z) zk_X12_beginsRule zi_X12_beginsRule q1787 rfl ⟨by decide, by decide⟩ ⟨rfl, rfl⟩ rfl rfl (Nat.le_of_ble_eq_true rfl) (by decide +kernel) (fun z hz => c_X12_beginsRule hz) (fun z4 => ?_)
      change Sim l G Y_X12_order lim _ _ 92 [some (.inr (.inr x0)), none, some (.inl x2), some (.inl x3), some (.inl x4), some (.inl x5), some (.inl x6), none] [] z4
      refine s_run (b := [(.iconst 0, 1), (.istore 7, 2)]) 95 [some (.inr (.inr x0)), none, some (.inl x2), some (.inl x3), some (.inl x4), some (.inl x5), some (.inl x6), some (.inl (0 : Int32))] [] (by decide +kernel) rfl ?_
      refine s_lsub (ls' := [some (.inr (.inr x0)), none, some (.inl x2), some (.inl x3), some (.inl x4), some (.inl x5), some (.inl x6), some (.inl (0 : Int32))]) ⟨rfl, ⟨rfl, ⟨rfl, ⟨rfl, ⟨rfl, ⟨rfl, ⟨rfl, trivial⟩⟩⟩⟩⟩⟩⟩ ?_
      refine sim_bind (L_X12_order_95 z4 x0 x2 x3 x4 x5 x6 (0 : Int32) _ (fun r5 => ?_))
      change Sim l G Y_X12_order lim _ _ 119 [some (.inr (.inr x0)), none, some (.inl x2), some (.inl x3), some (.inl x4), some (.inl x5), some (.inl x6), none] [] r5
      refine s_run (b := [(.aload_n 0, 1)]) 120 [some (.inr (.inr x0)), none, some (.inl x2), some (.inl x3), some (.inl x4), some (.inl x5), some (.inl x6), none] [.inr (.inr x0)] (by decide +kernel) rfl ?_
      refine s_gI fl_12_229 rfl (by decide +kernel) (fun v6 => ?_)
      refine s_run (b := [(.iload 5, 2)]) 125 [some (.inr (.inr x0)), none, some (.inl x2), some (.inl x3), some (.inl x4), some (.inl x5), some (.inl x6), none] [.inl x5, .inl v6] (by decide +kernel) rfl ?_
      refine s_ic_gt (tgt := 131) (off := 6) (by decide +kernel) (by decide) (fun h7 => ?_) (fun h7 => ?_)
      · skip
        refine s_run (b := [(.aload_n 0, 1)]) 132 [some (.inr (.inr x0)), none, some (.inl x2), some (.inl x3), some (.inl x4), some (.inl x5), some (.inl x6), none] [.inr (.inr x0)] (by decide +kernel) rfl ?_
        refine s_gI fl_12_229 rfl (by decide +kernel) (fun v8 => ?_)
        refine s_run (b := [(.istore 5, 2), (.iconst 0, 1), (.istore 7, 2)]) 140 [some (.inr (.inr x0)), none, some (.inl x2), some (.inl x3), some (.inl x4), some (.inl v8), some (.inl x6), some (.inl (0 : Int32))] [] (by decide +kernel) rfl ?_
        refine s_lsub (ls' := [some (.inr (.inr x0)), none, some (.inl x2), some (.inl x3), some (.inl x4), some (.inl v8), some (.inl x6), some (.inl (0 : Int32))]) ⟨rfl, ⟨rfl, ⟨rfl, ⟨rfl, ⟨rfl, ⟨rfl, ⟨rfl, trivial⟩⟩⟩⟩⟩⟩⟩ ?_
        refine sim_bind (L_X12_order_140 r5 x0 x2 x3 x4 v8 x6 (0 : Int32) _ (fun r9 => ?_))
        change Sim l G Y_X12_order lim _ _ 166 [some (.inr (.inr x0)), none, some (.inl x2), some (.inl x3), some (.inl x4), some (.inl v8), some (.inl x6), none] [] r9
        refine s_run (b := [(.iinc 6 1, 3), (.goto (-101), 3)]) 68 [some (.inr (.inr x0)), none, some (.inl x2), some (.inl x3), some (.inl x4), some (.inl v8), some (.inl (x6 + (1 : Int32))), none] [] (by decide +kernel) rfl ?_
        exact s_lsub (ls' := [some (.inr (.inr x0)), none, some (.inl x2), some (.inl x3), some (.inl x4), some (.inl v8), some (.inl (x6 + (1 : Int32))), none]) ⟨rfl, ⟨rfl, ⟨rfl, ⟨rfl, ⟨rfl, ⟨rfl, trivial⟩⟩⟩⟩⟩⟩ (kk1 v8 (x6 + (1 : Int32)) r9)
      · skip
        refine s_run (b := [(.goto 38, 3), (.iinc 6 1, 3), (.goto (-101), 3)]) 68 [some (.inr (.inr x0)), none, some (.inl x2), some (.inl x3), some (.inl x4), some (.inl x5), some (.inl (x6 + (1 : Int32))), none] [] (by decide +kernel) rfl ?_
        exact s_lsub (ls' := [some (.inr (.inr x0)), none, some (.inl x2), some (.inl x3), some (.inl x4), some (.inl x5), some (.inl (x6 + (1 : Int32))), none]) ⟨rfl, ⟨rfl, ⟨rfl, ⟨rfl, ⟨rfl, ⟨rfl, trivial⟩⟩⟩⟩⟩⟩ (kk1 x5 (x6 + (1 : Int32)) r5)
set_option maxRecDepth 20000 in
theorem L_X12_order_68 {l : Launch} {G : Gv} {lim : Nat × Nat} (M : Mem) (x0 : Nat) (x2 : Int32) (x3 : Int32) (x4 : Int32) (x5 : Int32) (x6 : Int32) (K : ((Int32 × Mem)) → Option (Option Value × Mem)) (kk2_0 : ∀ r : Int32 × Mem, SimR l G Y_X12_order lim (K r) 172 [some (.inr (.inr x0)), none, none, some (.inl x3), none, some (.inl r.1), none, none] [] r.2) : Sim l G Y_X12_order lim (f_X12_order_L68 M x0 x2 x3 x4 x5 x6) K 68 [some (.inr (.inr x0)), none, some (.inl x2), some (.inl x3), some (.inl x4), some (.inl x5), some (.inl x6), none] [] M :=
  s_iter (f := fun s : Int32 × Int32 × Mem => f_X12_order_B68 s.2.2 x0 x2 x3 x4 s.1 s.2.1) (hd := 68) (cl := fun s => [some (.inr (.inr x0)), none, some (.inl x2), some (.inl x3), some (.inl x4), some (.inl s.1), some (.inl s.2.1), none]) (cm := fun s => s.2.2) (xp := fun _ => 172) (xl := fun r => [some (.inr (.inr x0)), none, none, some (.inl x3), none, some (.inl r.1), none, none]) (xm := fun r => r.2) (fun s K h1 h2 => B_X12_order_68 s.2.2 x0 x2 x3 x4 s.1 s.2.1 K (fun a5 a6 a_ => h1 (a5, a6, a_)) (fun a5 a_ => h2 (a5, a_))) 1048576 (x5, x6, M) K kk2_0
def f_X12_order (M : Mem) (x0 : Nat) (x1 : Int32) (x2 : Int32) (x3 : Int32) : Option (Int32 × Mem) :=
  (ob M 12 x0).bind fun _ => (f_X12_isOffice M x0 x1).bind fun z1 =>
  (if z1.1 = 0 then
    some ((-1 : Int32), z1.2)
  else
    (f_X12_isIn z1.2 x2 (0 : Int32) (5 : Int32)).bind fun v3 =>
    (if v3 = 0 then
      some ((-1 : Int32), z1.2)
    else
      (gI z1.2 12 x0 13).bind fun v5 =>
      (if v5 < x2 then
        some ((-1 : Int32), z1.2)
      else
        (f_X12_isIn z1.2 x3 (-1 : Int32) (x2 - (1 : Int32))).bind fun v7 =>
        (if v7 = 0 then
          some ((-1 : Int32), z1.2)
        else
          (f_X12_order_L44 z1.2 x0 x2 x3 (1 : Int32) (0 : Int32)).bind fun r9 =>
          (f_X12_order_L68 z1.2 x0 x2 x3 r9 (-1 : Int32) (0 : Int32)).bind fun r10 =>
          (if x3 = (-1 : Int32) then
            some (r10.1, r10.2)
          else
            (gR r10.2 12 x0 40).bind fun v12 =>
            (aI r10.2 0 v12 x3).bind fun v13 =>
            some (v13, r10.2))))))
set_option maxRecDepth 20000 in
theorem S_X12_order {l : Launch} {G : Gv} {lim : Nat × Nat} (M : Mem) (x0 : Nat) (x1 : Int32) (x2 : Int32) (x3 : Int32) : Sim l G Y_X12_order lim (f_X12_order M x0 x1 x2 x3) (fun z => some (some (.int z.1), z.2)) 0 [some (.inr (.inr x0)), some (.inl x1), some (.inl x2), some (.inl x3), none, none, none, none] [] M := by
  unfold f_X12_order
  refine s_run (b := [(.aload_n 0, 1), (.iload_n 1, 1)]) 2 [some (.inr (.inr x0)), some (.inl x1), some (.inl x2), some (.inl x3), none, none, none, none] [.inl x1, .inr (.inr x0)] (by decide +kernel) rfl ?_
  refine s_cV (Z := Y_X12_isOffice) (c := 12) (vs := [.inl x1]) (st := []) (rO := fun z => some (.inl z.1)) (mO := fun z => z.2) zk_X12_isOffice zi_X12_isOffice q1550 rfl ⟨by decide, by decide⟩ ⟨rfl, rfl⟩ rfl rfl (Nat.le_of_ble_eq_true rfl) (by decide +kernel) (fun z hz => c_X12_isOffice hz) (fun z1 => ?_)
  change Sim l G Y_X12_order lim _ _ 5 [some (.inr (.inr x0)), some (.inl x1), some (.inl x2), some (.inl x3), none, none, none, none] [.inl z1.1] z1.2
  refine s_if_eq (tgt := 36) (off := 31) (by decide +kernel) (by decide) (fun h2 => ?_) (fun h2 => ?_)
  · skip
    refine s_run (b := [(.iconst (-1), 1)]) 37 [some (.inr (.inr x0)), some (.inl x1), some (.inl x2), some (.inl x3), none, none, none, none] [.inl (-1 : Int32)] (by decide +kernel) rfl ?_
    exact s_iret (by decide +kernel) rfl
  · skip
    refine s_run (b := [(.iload_n 2, 1), (.iconst 0, 1), (.iconst 5, 1)]) 11 [some (.inr (.inr x0)), some (.inl x1), some (.inl x2), some (.inl x3), none, none, none, none] [.inl (5 : Int32), .inl (0 : Int32), .inl x2] (by decide +kernel) rfl ?_
    refine s_cS (Z := Y_X12_isIn) (vs := [.inl x2, .inl (0 : Int32), .inl (5 : Int32)]) (st := []) (rO := fun z => some (.inl z)) (mO := fun _ => z1.2) zk_X12_isIn q1464 q1463 ⟨by decide, by decide⟩ ⟨rfl, rfl⟩ rfl rfl (Nat.le_of_ble_eq_true rfl) (by decide +kernel) (fun z hz => c_X12_isIn hz) (fun v3 => ?_)
    change Sim l G Y_X12_order lim _ _ 14 [some (.inr (.inr x0)), some (.inl x1), some (.inl x2), some (.inl x3), none, none, none, none] [.inl v3] z1.2
    refine s_if_eq (tgt := 36) (off := 22) (by decide +kernel) (by decide) (fun h4 => ?_) (fun h4 => ?_)
    · skip
      refine s_run (b := [(.iconst (-1), 1)]) 37 [some (.inr (.inr x0)), some (.inl x1), some (.inl x2), some (.inl x3), none, none, none, none] [.inl (-1 : Int32)] (by decide +kernel) rfl ?_
      exact s_iret (by decide +kernel) rfl
    · skip
      refine s_run (b := [(.iload_n 2, 1), (.aload_n 0, 1)]) 19 [some (.inr (.inr x0)), some (.inl x1), some (.inl x2), some (.inl x3), none, none, none, none] [.inr (.inr x0), .inl x2] (by decide +kernel) rfl ?_
      refine s_gI fl_12_165 rfl (by decide +kernel) (fun v5 => ?_)
      refine s_ic_gt (tgt := 36) (off := 14) (by decide +kernel) (by decide) (fun h6 => ?_) (fun h6 => ?_)
      · skip
        refine s_run (b := [(.iconst (-1), 1)]) 37 [some (.inr (.inr x0)), some (.inl x1), some (.inl x2), some (.inl x3), none, none, none, none] [.inl (-1 : Int32)] (by decide +kernel) rfl ?_
        exact s_iret (by decide +kernel) rfl
      · skip
        refine s_run (b := [(.iload_n 3, 1), (.iconst (-1), 1), (.iload_n 2, 1), (.iconst 1, 1), (.isub, 1)]) 30 [some (.inr (.inr x0)), some (.inl x1), some (.inl x2), some (.inl x3), none, none, none, none] [.inl (x2 - (1 : Int32)), .inl (-1 : Int32), .inl x3] (by decide +kernel) rfl ?_
        refine s_cS (Z := Y_X12_isIn) (vs := [.inl x3, .inl (-1 : Int32), .inl (x2 - (1 : Int32))]) (st := []) (rO := fun z => some (.inl z)) (mO := fun _ => z1.2) zk_X12_isIn q1464 q1463 ⟨by decide, by decide⟩ ⟨rfl, rfl⟩ rfl rfl (Nat.le_of_ble_eq_true rfl) (by decide +kernel) (fun z hz => c_X12_isIn hz) (fun v7 => ?_)
        change Sim l G Y_X12_order lim _ _ 33 [some (.inr (.inr x0)), some (.inl x1), some (.inl x2), some (.inl x3), none, none, none, none] [.inl v7] z1.2
        refine s_if_ne (tgt := 38) (off := 5) (by decide +kernel) (by decide) (fun h8 => ?_) (fun h8 => ?_)
        · skip
          refine s_run (b := [(.iconst (-1), 1)]) 37 [some (.inr (.inr x0)), some (.inl x1), some (.inl x2), some (.inl x3), none, none, none, none] [.inl (-1 : Int32)] (by decide +kernel) rfl ?_
          exact s_iret (by decide +kernel) rfl
        · skip
          refine s_run (b := [(.iconst 1, 1), (.istore 4, 2), (.iconst 0, 1), (.istore 5, 2)]) 44 [some (.inr (.inr x0)), some (.inl x1), some (.inl x2), some (.inl x3), some (.inl (1 : Int32)), some (.inl (0 : Int32)), none, none] [] (by decide +kernel) rfl ?_
          refine s_lsub (ls' := [some (.inr (.inr x0)), none, some (.inl x2), some (.inl x3), some (.inl (1 : Int32)), some (.inl (0 : Int32)), none, none]) ⟨rfl, ⟨rfl, ⟨rfl, ⟨rfl, ⟨rfl, trivial⟩⟩⟩⟩⟩ ?_
          refine sim_bind (L_X12_order_44 z1.2 x0 x2 x3 (1 : Int32) (0 : Int32) _ (fun r9 => ?_))
          change Sim l G Y_X12_order lim _ _ 62 [some (.inr (.inr x0)), none, some (.inl x2), some (.inl x3), some (.inl r9), none, none, none] [] z1.2
          refine s_run (b := [(.iconst (-1), 1), (.istore 5, 2), (.iconst 0, 1), (.istore 6, 2)]) 68 [some (.inr (.inr x0)), none, some (.inl x2), some (.inl x3), some (.inl r9), some (.inl (-1 : Int32)), some (.inl (0 : Int32)), none] [] (by decide +kernel) rfl ?_
          refine s_lsub (ls' := [some (.inr (.inr x0)), none, some (.inl x2), some (.inl x3), some (.inl r9), some (.inl (-1 : Int32)), some (.inl (0 : Int32)), none]) ⟨rfl, ⟨rfl, ⟨rfl, ⟨rfl, ⟨rfl, ⟨rfl, trivial⟩⟩⟩⟩⟩⟩ ?_
          refine sim_bind (L_X12_order_68 z1.2 x0 x2 x3 r9 (-1 : Int32) (0 : Int32) _ (fun r10 => ?_))
          change Sim l G Y_X12_order lim _ _ 172 [some (.inr (.inr x0)), none, none, some (.inl x3), none, some (.inl r10.1), none, none] [] r10.2
          refine s_run (b := [(.iload_n 3, 1), (.iconst (-1), 1)]) 174 [some (.inr (.inr x0)), none, none, some (.inl x3), none, some (.inl r10.1), none, none] [.inl (-1 : Int32), .inl x3] (by decide +kernel) rfl ?_
          refine s_ic_ne (tgt := 182) (off := 8) (by decide +kernel) (by decide) (fun h11 => ?_) (fun h11 => ?_)
          · skip
            refine s_run (b := [(.iload 5, 2), (.goto 9, 3)]) 188 [some (.inr (.inr x0)), none, none, some (.inl x3), none, some (.inl r10.1), none, none] [.inl r10.1] (by decide +kernel) rfl ?_
            exact s_iret (by decide +kernel) rfl
          · skip
            refine s_run (b := [(.aload_n 0, 1)]) 183 [some (.inr (.inr x0)), none, none, some (.inl x3), none, some (.inl r10.1), none, none] [.inr (.inr x0)] (by decide +kernel) rfl ?_
            refine s_gR fl_12_45 rfl (by decide +kernel) (fun v12 => ?_)
            refine s_run (b := [(.iload_n 3, 1)]) 187 [some (.inr (.inr x0)), none, none, some (.inl x3), none, some (.inl r10.1), none, none] [.inl x3, .inr (.inr v12)] (by decide +kernel) rfl ?_
            refine s_ia (by decide +kernel) (fun v13 => ?_)
            exact s_iret (by decide +kernel) rfl
set_option maxRecDepth 20000 in
theorem c_X12_order {l : Launch} {G : Gv} {M : Mem} {x0 : Nat} {x1 : Int32} {x2 : Int32} {x3 : Int32} {z : Int32 × Mem} (h : f_X12_order M x0 x1 x2 x3 = some z) : MetS l G Y_X12_order [.inr (.inr x0), .inl x1, .inl x2, .inl x3] M (some (.int z.1)) z.2 :=
  met_of (ls0 := [some (.inr (.inr x0)), some (.inl x1), some (.inl x2), some (.inl x3), none, none, none, none]) (by decide) rfl (lv_in (m := 4) rfl) (sl_le (Nat.le_of_ble_eq_true rfl)) (by rw [h]; rfl) (Or.inl ⟨rfl, rfl⟩) (S_X12_order M x0 x1 x2 x3)
