def f_X12_plays_B7 (M : Mem) (x0 : Nat) (x1 : Int32) (x2 : Int32) : Option ((Int32 × Mem) ⊕ ((Mem))) :=
  (gI M 12 x0 12).bind fun v1 =>
  (if v1 ≤ x2 then
    some (.inr M)
  else
    (ob M 12 x0).bind fun _ => (f_X12_hears M x0 x2 x1).bind fun v3 =>
    (if v3 = 0 then
      some (.inl ((x2 + (1 : Int32)), M))
    else
      (ob M 12 x0).bind fun _ => (f_X12_of M x0 x2 (0 : Int32)).bind fun v5 =>
      (if v5 = (2 : Int32) then
        some (.inl ((x2 + (1 : Int32)), M))
      else
        (gR M 12 x0 30).bind fun v7 =>
        (gI M 12 x0 31).bind fun v8 =>
        (sI M 0 v7 v8 x2).bind fun M9 =>
        (gI M9 12 x0 31).bind fun v10 =>
        (pI M9 12 x0 31 (v10 + (1 : Int32))).bind fun M11 =>
        some (.inl ((x2 + (1 : Int32)), M11)))))
def f_X12_plays_L7 (M : Mem) (x0 : Nat) (x1 : Int32) (x2 : Int32) : Option ((Mem)) := iter (fun s : Int32 × Mem => f_X12_plays_B7 s.2 x0 x1 s.1) 1048576 (x2, M)
set_option maxRecDepth 20000 in
theorem B_X12_plays_7 {l : Launch} {G : Gv} {lim : Nat × Nat} (M : Mem) (x0 : Nat) (x1 : Int32) (x2 : Int32) (K : (Int32 × Mem) ⊕ ((Mem)) → Option (Option Value × Mem)) (kk1 : ∀ (s2 : Int32) (s_ : Mem), SimR l G Y_X12_plays lim (K (.inl (s2, s_))) 7 [some (.inr (.inr x0)), some (.inl x1), some (.inl s2)] [] s_) (kk2_0 : ∀ (s_ : Mem), SimR l G Y_X12_plays lim (K (.inr s_)) 63 [none, none, none] [] s_) : Sim l G Y_X12_plays lim (f_X12_plays_B7 M x0 x1 x2) K 7 [some (.inr (.inr x0)), some (.inl x1), some (.inl x2)] [] M := by
  unfold f_X12_plays_B7
  refine s_run (b := [(.iload_n 2, 1), (.aload_n 0, 1)]) 9 [some (.inr (.inr x0)), some (.inl x1), some (.inl x2)] [.inr (.inr x0), .inl x2] (by decide +kernel) rfl ?_
  refine s_gI fl_12_162 rfl (by decide +kernel) (fun v1 => ?_)
  refine s_ic_ge (tgt := 63) (off := 51) (by decide +kernel) (by decide) (fun h2 => ?_) (fun h2 => ?_)
  · skip
    exact s_lsub (ls' := [none, none, none]) trivial (kk2_0 M)
  · skip
    refine s_run (b := [(.aload_n 0, 1), (.iload_n 2, 1), (.iload_n 1, 1)]) 18 [some (.inr (.inr x0)), some (.inl x1), some (.inl x2)] [.inl x1, .inl x2, .inr (.inr x0)] (by decide +kernel) rfl ?_
    refine s_cV (Z := Y_X12_hears) (c := 12) (vs := [.inl x2, .inl x1]) (st := []) (rO := fun z => some (.inl z)) (mO := fun _ => M) zk_X12_hears zi_X12_hears q1609 rfl ⟨by decide, by decide⟩ ⟨rfl, rfl⟩ rfl rfl (Nat.le_of_ble_eq_true rfl) (by decide +kernel) (fun z hz => c_X12_hears hz) (fun v3 => ?_)
    change Sim l G Y_X12_plays lim _ _ 21 [some (.inr (.inr x0)), some (.inl x1), some (.inl x2)] [.inl v3] M
    refine s_if_eq (tgt := 57) (off := 36) (by decide +kernel) (by decide) (fun h4 => ?_) (fun h4 => ?_)
    · skip
      refine s_run (b := [(.iinc 2 1, 3), (.goto (-53), 3)]) 7 [some (.inr (.inr x0)), some (.inl x1), some (.inl (x2 + (1 : Int32)))] [] (by decide +kernel) rfl ?_
      exact s_lsub (ls' := [some (.inr (.inr x0)), some (.inl x1), some (.inl (x2 + (1 : Int32)))]) ⟨rfl, ⟨rfl, ⟨rfl, trivial⟩⟩⟩ (kk1 (x2 + (1 : Int32)) M)
    · skip
      refine s_run (b := [(.aload_n 0, 1), (.iload_n 2, 1), (.iconst 0, 1)]) 27 [some (.inr (.inr x0)), some (.inl x1), some (.inl x2)] [.inl (0 : Int32), .inl x2, .inr (.inr x0)] (by decide +kernel) rfl ?_
      refine s_cV (Z := Y_X12_of) (c := 12) (vs := [.inl x2, .inl (0 : Int32)]) (st := []) (rO := fun z => some (.inl z)) (mO := fun _ => M) zk_X12_of zi_X12_of q1558 rfl ⟨by decide, by decide⟩ ⟨rfl, rfl⟩ rfl rfl (Nat.le_of_ble_eq_true rfl) (by decide +kernel) (fun z hz => c_X12_of hz) (fun v5 => ?_)
      change Sim l G Y_X12_plays lim _ _ 30 [some (.inr (.inr x0)), some (.inl x1), some (.inl x2)] [.inl v5] M
      refine s_run (b := [(.iconst 2, 1)]) 31 [some (.inr (.inr x0)), some (.inl x1), some (.inl x2)] [.inl (2 : Int32), .inl v5] (by decide +kernel) rfl ?_
      refine s_ic_ne (tgt := 37) (off := 6) (by decide +kernel) (by decide) (fun h6 => ?_) (fun h6 => ?_)
      · skip
        refine s_run (b := [(.goto 23, 3), (.iinc 2 1, 3), (.goto (-53), 3)]) 7 [some (.inr (.inr x0)), some (.inl x1), some (.inl (x2 + (1 : Int32)))] [] (by decide +kernel) rfl ?_
        exact s_lsub (ls' := [some (.inr (.inr x0)), some (.inl x1), some (.inl (x2 + (1 : Int32)))]) ⟨rfl, ⟨rfl, ⟨rfl, trivial⟩⟩⟩ (kk1 (x2 + (1 : Int32)) M)
      · skip
        refine s_run (b := [(.aload_n 0, 1)]) 38 [some (.inr (.inr x0)), some (.inl x1), some (.inl x2)] [.inr (.inr x0)] (by decide +kernel) rfl ?_
        refine s_gR fl_12_32 rfl (by decide +kernel) (fun v7 => ?_)
        refine s_run (b := [(.aload_n 0, 1)]) 42 [some (.inr (.inr x0)), some (.inl x1), some (.inl x2)] [.inr (.inr x0), .inr (.inr v7)] (by decide +kernel) rfl ?_
        refine s_gI fl_12_294 rfl (by decide +kernel) (fun v8 => ?_)
        refine s_run (b := [(.iload_n 2, 1)]) 46 [some (.inr (.inr x0)), some (.inl x1), some (.inl x2)] [.inl x2, .inl v8, .inr (.inr v7)] (by decide +kernel) rfl ?_
        refine s_is (by decide +kernel) (fun M9 => ?_)
        refine s_run (b := [(.aload_n 0, 1), (.dup, 1)]) 49 [some (.inr (.inr x0)), some (.inl x1), some (.inl x2)] [.inr (.inr x0), .inr (.inr x0)] (by decide +kernel) rfl ?_
        refine s_gI fl_12_294 rfl (by decide +kernel) (fun v10 => ?_)
        refine s_run (b := [(.iconst 1, 1), (.iadd, 1)]) 54 [some (.inr (.inr x0)), some (.inl x1), some (.inl x2)] [.inl (v10 + (1 : Int32)), .inr (.inr x0)] (by decide +kernel) rfl ?_
        refine s_pI fl_12_294 (Or.inl rfl) rfl (by decide +kernel) (fun M11 => ?_)
        refine s_run (b := [(.iinc 2 1, 3), (.goto (-53), 3)]) 7 [some (.inr (.inr x0)), some (.inl x1), some (.inl (x2 + (1 : Int32)))] [] (by decide +kernel) rfl ?_
        exact s_lsub (ls' := [some (.inr (.inr x0)), some (.inl x1), some (.inl (x2 + (1 : Int32)))]) ⟨rfl, ⟨rfl, ⟨rfl, trivial⟩⟩⟩ (kk1 (x2 + (1 : Int32)) M11)
set_option maxRecDepth 20000 in
theorem L_X12_plays_7 {l : Launch} {G : Gv} {lim : Nat × Nat} (M : Mem) (x0 : Nat) (x1 : Int32) (x2 : Int32) (K : ((Mem)) → Option (Option Value × Mem)) (kk2_0 : ∀ r : Mem, SimR l G Y_X12_plays lim (K r) 63 [none, none, none] [] r) : Sim l G Y_X12_plays lim (f_X12_plays_L7 M x0 x1 x2) K 7 [some (.inr (.inr x0)), some (.inl x1), some (.inl x2)] [] M :=
  s_iter (f := fun s : Int32 × Mem => f_X12_plays_B7 s.2 x0 x1 s.1) (hd := 7) (cl := fun s => [some (.inr (.inr x0)), some (.inl x1), some (.inl s.1)]) (cm := fun s => s.2) (xp := fun _ => 63) (xl := fun r => [none, none, none]) (xm := fun r => r) (fun s K h1 h2 => B_X12_plays_7 s.2 x0 x1 s.1 K (fun a2 a_ => h1 (a2, a_)) (fun a_ => h2 a_)) 1048576 (x2, M) K kk2_0
def f_X12_plays (M : Mem) (x0 : Nat) (x1 : Int32) : Option (Mem) :=
  (pI M 12 x0 31 (0 : Int32)).bind fun M1 =>
  (f_X12_plays_L7 M1 x0 x1 (0 : Int32)).bind fun r2 =>
  some r2
set_option maxRecDepth 20000 in
theorem S_X12_plays {l : Launch} {G : Gv} {lim : Nat × Nat} (M : Mem) (x0 : Nat) (x1 : Int32) : Sim l G Y_X12_plays lim (f_X12_plays M x0 x1) (fun z => some (none, z)) 0 [some (.inr (.inr x0)), some (.inl x1), none] [] M := by
  unfold f_X12_plays
  refine s_run (b := [(.aload_n 0, 1), (.iconst 0, 1)]) 2 [some (.inr (.inr x0)), some (.inl x1), none] [.inl (0 : Int32), .inr (.inr x0)] (by decide +kernel) rfl ?_
  refine s_pI fl_12_294 (Or.inl rfl) rfl (by decide +kernel) (fun M1 => ?_)
  refine s_run (b := [(.iconst 0, 1), (.istore_n 2, 1)]) 7 [some (.inr (.inr x0)), some (.inl x1), some (.inl (0 : Int32))] [] (by decide +kernel) rfl ?_
  refine s_lsub (ls' := [some (.inr (.inr x0)), some (.inl x1), some (.inl (0 : Int32))]) ⟨rfl, ⟨rfl, ⟨rfl, trivial⟩⟩⟩ ?_
  refine sim_bind (L_X12_plays_7 M1 x0 x1 (0 : Int32) _ (fun r2 => ?_))
  change Sim l G Y_X12_plays lim _ _ 63 [none, none, none] [] r2
  exact s_vret (by decide +kernel) rfl
set_option maxRecDepth 20000 in
theorem c_X12_plays {l : Launch} {G : Gv} {M : Mem} {x0 : Nat} {x1 : Int32} {z : Mem} (h : f_X12_plays M x0 x1 = some z) : MetS l G Y_X12_plays [.inr (.inr x0), .inl x1] M none z :=
  met_of (ls0 := [some (.inr (.inr x0)), some (.inl x1), none]) (by decide) rfl (lv_in (m := 1) rfl) (sl_le (Nat.le_of_ble_eq_true rfl)) (by rw [h]; rfl) (Or.inl ⟨rfl, rfl⟩) (S_X12_plays M x0 x1)
def f_X12_saidOf (M : Mem) (x0 : Nat) (x1 : Int32) (x2 : Int32) : Option (Int32) :=
  (gI M 12 x0 31).bind fun v1 =>
  some ((x1 >>> (((2 : Int32) * ((v1 - (1 : Int32)) - x2)) &&& 31)) &&& (3 : Int32))
set_option maxRecDepth 20000 in
theorem S_X12_saidOf {l : Launch} {G : Gv} {lim : Nat × Nat} (M : Mem) (x0 : Nat) (x1 : Int32) (x2 : Int32) : Sim l G Y_X12_saidOf lim (f_X12_saidOf M x0 x1 x2) (fun z => some (some (.int z), M)) 0 [some (.inr (.inr x0)), some (.inl x1), some (.inl x2)] [] M := by
  unfold f_X12_saidOf
  refine s_run (b := [(.iload_n 1, 1), (.iconst 2, 1), (.aload_n 0, 1)]) 3 [some (.inr (.inr x0)), some (.inl x1), some (.inl x2)] [.inr (.inr x0), .inl (2 : Int32), .inl x1] (by decide +kernel) rfl ?_
  refine s_gI fl_12_294 rfl (by decide +kernel) (fun v1 => ?_)
  refine s_run (b := [(.iconst 1, 1), (.isub, 1), (.iload_n 2, 1), (.isub, 1), (.imul, 1), (.ishr, 1), (.iconst 3, 1), (.iand, 1)]) 14 [some (.inr (.inr x0)), some (.inl x1), some (.inl x2)] [.inl ((x1 >>> (((2 : Int32) * ((v1 - (1 : Int32)) - x2)) &&& 31)) &&& (3 : Int32))] (by decide +kernel) rfl ?_
  exact s_iret (by decide +kernel) rfl
set_option maxRecDepth 20000 in
theorem c_X12_saidOf {l : Launch} {G : Gv} {M : Mem} {x0 : Nat} {x1 : Int32} {x2 : Int32} {z : Int32} (h : f_X12_saidOf M x0 x1 x2 = some z) : MetS l G Y_X12_saidOf [.inr (.inr x0), .inl x1, .inl x2] M (some (.int z)) M :=
  met_of (ls0 := [some (.inr (.inr x0)), some (.inl x1), some (.inl x2)]) (by decide) rfl (lv_in (m := 0) rfl) (sl_le (Nat.le_of_ble_eq_true rfl)) (by rw [h]; rfl) (Or.inl ⟨rfl, rfl⟩) (S_X12_saidOf M x0 x1 x2)
def f_X12_waits_J96 (M : Mem) (x0 : Nat) (x1 : Int32) (x2 : Int32) (x3 : Int32) (x4 : Int32)  : Option ((Int32 × Mem) ⊕ ((Mem))) :=
  (gR M 12 x0 30).bind fun v1 =>
  (aI M 0 v1 x3).bind fun v2 =>
  (pI M 12 x0 32 v2).bind fun M3 =>
  (pI M3 12 x0 33 x4).bind fun M4 =>
  some (.inl ((x3 + (1 : Int32)), M4))
set_option maxRecDepth 20000 in
theorem J_X12_waits_96 {l : Launch} {G : Gv} {lim : Nat × Nat} (M : Mem) (x0 : Nat) (x1 : Int32) (x2 : Int32) (x3 : Int32) (x4 : Int32)  (K : (Int32 × Mem) ⊕ ((Mem)) → Option (Option Value × Mem)) (kk1 : ∀ (s3 : Int32) (s_ : Mem), SimR l G Y_X12_waits lim (K (.inl (s3, s_))) 12 [some (.inr (.inr x0)), some (.inl x1), some (.inl x2), some (.inl s3), none] [] s_) (kk2_0 : ∀ (s_ : Mem), SimR l G Y_X12_waits lim (K (.inr s_)) 118 [none, none, none, none, none] [] s_) : Sim l G Y_X12_waits lim (f_X12_waits_J96 M x0 x1 x2 x3 x4) K 96 [some (.inr (.inr x0)), some (.inl x1), some (.inl x2), some (.inl x3), some (.inl x4)] [] M := by
  unfold f_X12_waits_J96
  refine s_run (b := [(.aload_n 0, 1), (.aload_n 0, 1)]) 98 [some (.inr (.inr x0)), some (.inl x1), some (.inl x2), some (.inl x3), some (.inl x4)] [.inr (.inr x0), .inr (.inr x0)] (by decide +kernel) rfl ?_
  refine s_gR fl_12_32 rfl (by decide +kernel) (fun v1 => ?_)
  refine s_run (b := [(.iload_n 3, 1)]) 102 [some (.inr (.inr x0)), some (.inl x1), some (.inl x2), some (.inl x3), some (.inl x4)] [.inl x3, .inr (.inr v1), .inr (.inr x0)] (by decide +kernel) rfl ?_
  refine s_ia (by decide +kernel) (fun v2 => ?_)
  refine s_pI fl_12_297 (Or.inl rfl) rfl (by decide +kernel) (fun M3 => ?_)
  refine s_run (b := [(.aload_n 0, 1), (.iload 4, 2)]) 109 [some (.inr (.inr x0)), some (.inl x1), some (.inl x2), some (.inl x3), some (.inl x4)] [.inl x4, .inr (.inr x0)] (by decide +kernel) rfl ?_
  refine s_pI fl_12_300 (Or.inl rfl) rfl (by decide +kernel) (fun M4 => ?_)
  refine s_run (b := [(.iinc 3 1, 3), (.goto (-103), 3)]) 12 [some (.inr (.inr x0)), some (.inl x1), some (.inl x2), some (.inl (x3 + (1 : Int32))), some (.inl x4)] [] (by decide +kernel) rfl ?_
  exact s_lsub (ls' := [some (.inr (.inr x0)), some (.inl x1), some (.inl x2), some (.inl (x3 + (1 : Int32))), none]) ⟨rfl, ⟨rfl, ⟨rfl, ⟨rfl, trivial⟩⟩⟩⟩ (kk1 (x3 + (1 : Int32)) M4)
def f_X12_waits_J53 (M : Mem) (x0 : Nat) (x1 : Int32) (x2 : Int32) (x3 : Int32) (x4 : Int32)  : Option ((Int32 × Mem) ⊕ ((Mem))) :=
  (gI M 12 x0 32).bind fun v1 =>
  (if v1 = (-1 : Int32) then
    f_X12_waits_J96 M x0 x1 x2 x3 x4 
  else
    (gI M 12 x0 33).bind fun v3 =>
    (if x4 = v3 then
      (gR M 12 x0 30).bind fun v5 =>
      (aI M 0 v5 x3).bind fun v6 =>
      (ob M 12 x0).bind fun _ => (f_X12_off M x0 v6 x1).bind fun v7 =>
      (gI M 12 x0 32).bind fun v8 =>
      (ob M 12 x0).bind fun _ => (f_X12_off M x0 v8 x1).bind fun v9 =>
      (if v7 < v9 then
        f_X12_waits_J96 M x0 x1 x2 x3 x4 
      else
        some (.inl ((x3 + (1 : Int32)), M)))
    else
      f_X12_waits_J96 M x0 x1 x2 x3 x4 ))
set_option maxRecDepth 20000 in
theorem J_X12_waits_53 {l : Launch} {G : Gv} {lim : Nat × Nat} (M : Mem) (x0 : Nat) (x1 : Int32) (x2 : Int32) (x3 : Int32) (x4 : Int32)  (K : (Int32 × Mem) ⊕ ((Mem)) → Option (Option Value × Mem)) (kk1 : ∀ (s3 : Int32) (s_ : Mem), SimR l G Y_X12_waits lim (K (.inl (s3, s_))) 12 [some (.inr (.inr x0)), some (.inl x1), some (.inl x2), some (.inl s3), none] [] s_) (kk2_0 : ∀ (s_ : Mem), SimR l G Y_X12_waits lim (K (.inr s_)) 118 [none, none, none, none, none] [] s_) : Sim l G Y_X12_waits lim (f_X12_waits_J53 M x0 x1 x2 x3 x4) K 53 [some (.inr (.inr x0)), some (.inl x1), some (.inl x2), some (.inl x3), some (.inl x4)] [] M := by
  unfold f_X12_waits_J53
  refine s_run (b := [(.aload_n 0, 1)]) 54 [some (.inr (.inr x0)), some (.inl x1), some (.inl x2), some (.inl x3), some (.inl x4)] [.inr (.inr x0)] (by decide +kernel) rfl ?_
  refine s_gI fl_12_297 rfl (by decide +kernel) (fun v1 => ?_)
  refine s_run (b := [(.iconst (-1), 1)]) 58 [some (.inr (.inr x0)), some (.inl x1), some (.inl x2), some (.inl x3), some (.inl x4)] [.inl (-1 : Int32), .inl v1] (by decide +kernel) rfl ?_
  refine s_ic_eq (tgt := 96) (off := 38) (by decide +kernel) (by decide) (fun h2 => ?_) (fun h2 => ?_)
  · skip
    exact s_lsub (ls' := [some (.inr (.inr x0)), some (.inl x1), some (.inl x2), some (.inl x3), some (.inl x4)]) ⟨rfl, ⟨rfl, ⟨rfl, ⟨rfl, ⟨rfl, trivial⟩⟩⟩⟩⟩ (J_X12_waits_96 M x0 x1 x2 x3 x4  K kk1 kk2_0)
  · skip
    refine s_run (b := [(.iload 4, 2), (.aload_n 0, 1)]) 64 [some (.inr (.inr x0)), some (.inl x1), some (.inl x2), some (.inl x3), some (.inl x4)] [.inr (.inr x0), .inl x4] (by decide +kernel) rfl ?_
    refine s_gI fl_12_300 rfl (by decide +kernel) (fun v3 => ?_)
    refine s_ic_ne (tgt := 96) (off := 29) (by decide +kernel) (by decide) (fun h4 => ?_) (fun h4 => ?_)
    · skip
      refine s_run (b := [(.aload_n 0, 1), (.aload_n 0, 1)]) 72 [some (.inr (.inr x0)), some (.inl x1), some (.inl x2), some (.inl x3), some (.inl x4)] [.inr (.inr x0), .inr (.inr x0)] (by decide +kernel) rfl ?_
      refine s_gR fl_12_32 rfl (by decide +kernel) (fun v5 => ?_)
      refine s_run (b := [(.iload_n 3, 1)]) 76 [some (.inr (.inr x0)), some (.inl x1), some (.inl x2), some (.inl x3), some (.inl x4)] [.inl x3, .inr (.inr v5), .inr (.inr x0)] (by decide +kernel) rfl ?_
      refine s_ia (by decide +kernel) (fun v6 => ?_)
      refine s_run (b := [(.iload_n 1, 1)]) 78 [some (.inr (.inr x0)), some (.inl x1), some (.inl x2), some (.inl x3), some (.inl x4)] [.inl x1, .inl v6, .inr (.inr x0)] (by decide +kernel) rfl ?_
      refine s_cV (Z := Y_X12_off) (c := 12) (vs := [.inl v6, .inl x1]) (st := []) (rO := fun z => some (.inl z)) (mO := fun _ => M) zk_X12_off zi_X12_off q1613 rfl ⟨by decide, by decide⟩ ⟨rfl, rfl⟩ rfl rfl (Nat.le_of_ble_eq_true rfl) (by decide +kernel) (fun z hz => c_X12_off hz) (fun v7 => ?_)
      change Sim l G Y_X12_waits lim _ _ 81 [some (.inr (.inr x0)), some (.inl x1), some (.inl x2), some (.inl x3), some (.inl x4)] [.inl v7] M
      refine s_run (b := [(.aload_n 0, 1), (.aload_n 0, 1)]) 83 [some (.inr (.inr x0)), some (.inl x1), some (.inl x2), some (.inl x3), some (.inl x4)] [.inr (.inr x0), .inr (.inr x0), .inl v7] (by decide +kernel) rfl ?_
      refine s_gI fl_12_297 rfl (by decide +kernel) (fun v8 => ?_)
      refine s_run (b := [(.iload_n 1, 1)]) 87 [some (.inr (.inr x0)), some (.inl x1), some (.inl x2), some (.inl x3), some (.inl x4)] [.inl x1, .inl v8, .inr (.inr x0), .inl v7] (by decide +kernel) rfl ?_
      refine s_cV (Z := Y_X12_off) (c := 12) (vs := [.inl v8, .inl x1]) (st := [.inl v7]) (rO := fun z => some (.inl z)) (mO := fun _ => M) zk_X12_off zi_X12_off q1613 rfl ⟨by decide, by decide⟩ ⟨rfl, rfl⟩ rfl rfl (Nat.le_of_ble_eq_true rfl) (by decide +kernel) (fun z hz => c_X12_off hz) (fun v9 => ?_)
      change Sim l G Y_X12_waits lim _ _ 90 [some (.inr (.inr x0)), some (.inl x1), some (.inl x2), some (.inl x3), some (.inl x4)] [.inl v9, .inl v7] M
      refine s_ic_lt (tgt := 96) (off := 6) (by decide +kernel) (by decide) (fun h10 => ?_) (fun h10 => ?_)
      · skip
        exact s_lsub (ls' := [some (.inr (.inr x0)), some (.inl x1), some (.inl x2), some (.inl x3), some (.inl x4)]) ⟨rfl, ⟨rfl, ⟨rfl, ⟨rfl, ⟨rfl, trivial⟩⟩⟩⟩⟩ (J_X12_waits_96 M x0 x1 x2 x3 x4  K kk1 kk2_0)
      · skip
        refine s_run (b := [(.goto 19, 3), (.iinc 3 1, 3), (.goto (-103), 3)]) 12 [some (.inr (.inr x0)), some (.inl x1), some (.inl x2), some (.inl (x3 + (1 : Int32))), some (.inl x4)] [] (by decide +kernel) rfl ?_
        exact s_lsub (ls' := [some (.inr (.inr x0)), some (.inl x1), some (.inl x2), some (.inl (x3 + (1 : Int32))), none]) ⟨rfl, ⟨rfl, ⟨rfl, ⟨rfl, trivial⟩⟩⟩⟩ (kk1 (x3 + (1 : Int32)) M)
    · skip
      exact s_lsub (ls' := [some (.inr (.inr x0)), some (.inl x1), some (.inl x2), some (.inl x3), some (.inl x4)]) ⟨rfl, ⟨rfl, ⟨rfl, ⟨rfl, ⟨rfl, trivial⟩⟩⟩⟩⟩ (J_X12_waits_96 M x0 x1 x2 x3 x4  K kk1 kk2_0)
def f_X12_waits_B12 (M : Mem) (x0 : Nat) (x1 : Int32) (x2 : Int32) (x3 : Int32) : Option ((Int32 × Mem) ⊕ ((Mem))) :=
  (gI M 12 x0 31).bind fun v1 =>
  (if v1 ≤ x3 then
    some (.inr M)
  else
    (ob M 12 x0).bind fun _ => (f_X12_saidOf M x0 x2 x3).bind fun v3 =>
    (if v3 = 0 then
      some (.inl ((x3 + (1 : Int32)), M))
    else
      (gI M 12 x0 32).bind fun v5 =>
      (if v5 = (-1 : Int32) then
        f_X12_waits_J53 M x0 x1 x2 x3 v3 
      else
        (gI M 12 x0 33).bind fun v7 =>
        (if v3 ≤ v7 then
          f_X12_waits_J53 M x0 x1 x2 x3 v3 
        else
          some (.inl ((x3 + (1 : Int32)), M))))))
def f_X12_waits_L12 (M : Mem) (x0 : Nat) (x1 : Int32) (x2 : Int32) (x3 : Int32) : Option ((Mem)) := iter (fun s : Int32 × Mem => f_X12_waits_B12 s.2 x0 x1 x2 s.1) 1048576 (x3, M)
set_option maxRecDepth 20000 in
theorem B_X12_waits_12 {l : Launch} {G : Gv} {lim : Nat × Nat} (M : Mem) (x0 : Nat) (x1 : Int32) (x2 : Int32) (x3 : Int32) (K : (Int32 × Mem) ⊕ ((Mem)) → Option (Option Value × Mem)) (kk1 : ∀ (s3 : Int32) (s_ : Mem), SimR l G Y_X12_waits lim (K (.inl (s3, s_))) 12 [some (.inr (.inr x0)), some (.inl x1), some (.inl x2), some (.inl s3), none] [] s_) (kk2_0 : ∀ (s_ : Mem), SimR l G Y_X12_waits lim (K (.inr s_)) 118 [none, none, none, none, none] [] s_) : Sim l G Y_X12_waits lim (f_X12_waits_B12 M x0 x1 x2 x3) K 12 [some (.inr (.inr x0)), some (.inl x1), some (.inl x2), some (.inl x3), none] [] M := by
  unfold f_X12_waits_B12
  refine s_run (b := [(.iload_n 3, 1), (.aload_n 0, 1)]) 14 [some (.inr (.inr x0)), some (.inl x1), some (.inl x2), some (.inl x3), none] [.inr (.inr x0), .inl x3] (by decide +kernel) rfl ?_
  refine s_gI fl_12_294 rfl (by decide +kernel) (fun v1 => ?_)
  refine s_ic_ge (tgt := 118) (off := 101) (by decide +kernel) (by decide) (fun h2 => ?_) (fun h2 => ?_)
  · skip
    exact s_lsub (ls' := [none, none, none, none, none]) trivial (kk2_0 M)
  · skip
    refine s_run (b := [(.aload_n 0, 1), (.iload_n 2, 1), (.iload_n 3, 1)]) 23 [some (.inr (.inr x0)), some (.inl x1), some (.inl x2), some (.inl x3), none] [.inl x3, .inl x2, .inr (.inr x0)] (by decide +kernel) rfl ?_
    refine s_cV (Z := Y_X12_saidOf) (c := 12) (vs := [.inl x2, .inl x3]) (st := []) (rO := fun z => some (.inl z)) (mO := fun _ => M) zk_X12_saidOf zi_X12_saidOf q1707 rfl ⟨by decide, by decide⟩ ⟨rfl, rfl⟩ rfl rfl (Nat.le_of_ble_eq_true rfl) (by decide +kernel) (fun z hz => c_X12_saidOf hz) (fun v3 => ?_)
    change Sim l G Y_X12_waits lim _ _ 26 [some (.inr (.inr x0)), some (.inl x1), some (.inl x2), some (.inl x3), none] [.inl v3] M
    refine s_run (b := [(.istore 4, 2), (.iload 4, 2)]) 30 [some (.inr (.inr x0)), some (.inl x1), some (.inl x2), some (.inl x3), some (.inl v3)] [.inl v3] (by decide +kernel) rfl ?_
    refine s_if_eq (tgt := 112) (off := 82) (by decide +kernel) (by decide) (fun h4 => ?_) (fun h4 => ?_)
    · skip
      refine s_run (b := [(.iinc 3 1, 3), (.goto (-103), 3)]) 12 [some (.inr (.inr x0)), some (.inl x1), some (.inl x2), some (.inl (x3 + (1 : Int32))), some (.inl v3)] [] (by decide +kernel) rfl ?_
      exact s_lsub (ls' := [some (.inr (.inr x0)), some (.inl x1), some (.inl x2), some (.inl (x3 + (1 : Int32))), none]) ⟨rfl, ⟨rfl, ⟨rfl, ⟨rfl, trivial⟩⟩⟩⟩ (kk1 (x3 + (1 : Int32)) M)
    · skip
      refine s_run (b := [(.aload_n 0, 1)]) 34 [some (.inr (.inr x0)), some (.inl x1), some (.inl x2), some (.inl x3), some (.inl v3)] [.inr (.inr x0)] (by decide +kernel) rfl ?_
      refine s_gI fl_12_297 rfl (by decide +kernel) (fun v5 => ?_)
      refine s_run (b := [(.iconst (-1), 1)]) 38 [some (.inr (.inr x0)), some (.inl x1), some (.inl x2), some (.inl x3), some (.inl v3)] [.inl (-1 : Int32), .inl v5] (by decide +kernel) rfl ?_
      refine s_ic_eq (tgt := 53) (off := 15) (by decide +kernel) (by decide) (fun h6 => ?_) (fun h6 => ?_)
      · skip
        exact s_lsub (ls' := [some (.inr (.inr x0)), some (.inl x1), some (.inl x2), some (.inl x3), some (.inl v3)]) ⟨rfl, ⟨rfl, ⟨rfl, ⟨rfl, ⟨rfl, trivial⟩⟩⟩⟩⟩ (J_X12_waits_53 M x0 x1 x2 x3 v3  K kk1 kk2_0)
      · skip
        refine s_run (b := [(.iload 4, 2), (.aload_n 0, 1)]) 44 [some (.inr (.inr x0)), some (.inl x1), some (.inl x2), some (.inl x3), some (.inl v3)] [.inr (.inr x0), .inl v3] (by decide +kernel) rfl ?_
        refine s_gI fl_12_300 rfl (by decide +kernel) (fun v7 => ?_)
        refine s_ic_le (tgt := 53) (off := 6) (by decide +kernel) (by decide) (fun h8 => ?_) (fun h8 => ?_)
        · skip
          exact s_lsub (ls' := [some (.inr (.inr x0)), some (.inl x1), some (.inl x2), some (.inl x3), some (.inl v3)]) ⟨rfl, ⟨rfl, ⟨rfl, ⟨rfl, ⟨rfl, trivial⟩⟩⟩⟩⟩ (J_X12_waits_53 M x0 x1 x2 x3 v3  K kk1 kk2_0)
        · skip
          refine s_run (b := [(.goto 62, 3), (.iinc 3 1, 3), (.goto (-103), 3)]) 12 [some (.inr (.inr x0)), some (.inl x1), some (.inl x2), some (.inl (x3 + (1 : Int32))), some (.inl v3)] [] (by decide +kernel) rfl ?_
          exact s_lsub (ls' := [some (.inr (.inr x0)), some (.inl x1), some (.inl x2), some (.inl (x3 + (1 : Int32))), none]) ⟨rfl, ⟨rfl, ⟨rfl, ⟨rfl, trivial⟩⟩⟩⟩ (kk1 (x3 + (1 : Int32)) M)
set_option maxRecDepth 20000 in
theorem L_X12_waits_12 {l : Launch} {G : Gv} {lim : Nat × Nat} (M : Mem) (x0 : Nat) (x1 : Int32) (x2 : Int32) (x3 : Int32) (K : ((Mem)) → Option (Option Value × Mem)) (kk2_0 : ∀ r : Mem, SimR l G Y_X12_waits lim (K r) 118 [none, none, none, none, none] [] r) : Sim l G Y_X12_waits lim (f_X12_waits_L12 M x0 x1 x2 x3) K 12 [some (.inr (.inr x0)), some (.inl x1), some (.inl x2), some (.inl x3), none] [] M :=
  s_iter (f := fun s : Int32 × Mem => f_X12_waits_B12 s.2 x0 x1 x2 s.1) (hd := 12) (cl := fun s => [some (.inr (.inr x0)), some (.inl x1), some (.inl x2), some (.inl s.1), none]) (cm := fun s => s.2) (xp := fun _ => 118) (xl := fun r => [none, none, none, none, none]) (xm := fun r => r) (fun s K h1 h2 => B_X12_waits_12 s.2 x0 x1 x2 s.1 K (fun a3 a_ => h1 (a3, a_)) (fun a_ => h2 a_)) 1048576 (x3, M) K kk2_0
def f_X12_waits (M : Mem) (x0 : Nat) (x1 : Int32) (x2 : Int32) : Option (Mem) :=
  (pI M 12 x0 32 (-1 : Int32)).bind fun M1 =>
  (pI M1 12 x0 33 (0 : Int32)).bind fun M2 =>
  (f_X12_waits_L12 M2 x0 x1 x2 (0 : Int32)).bind fun r3 =>
  some r3
set_option maxRecDepth 20000 in
theorem S_X12_waits {l : Launch} {G : Gv} {lim : Nat × Nat} (M : Mem) (x0 : Nat) (x1 : Int32) (x2 : Int32) : Sim l G Y_X12_waits lim (f_X12_waits M x0 x1 x2) (fun z => some (none, z)) 0 [some (.inr (.inr x0)), some (.inl x1), some (.inl x2), none, none] [] M := by
  unfold f_X12_waits
  refine s_run (b := [(.aload_n 0, 1), (.iconst (-1), 1)]) 2 [some (.inr (.inr x0)), some (.inl x1), some (.inl x2), none, none] [.inl (-1 : Int32), .inr (.inr x0)] (by decide +kernel) rfl ?_
  refine s_pI fl_12_297 (Or.inl rfl) rfl (by decide +kernel) (fun M1 => ?_)
  refine s_run (b := [(.aload_n 0, 1), (.iconst 0, 1)]) 7 [some (.inr (.inr x0)), some (.inl x1), some (.inl x2), none, none] [.inl (0 : Int32), .inr (.inr x0)] (by decide +kernel) rfl ?_
  refine s_pI fl_12_300 (Or.inl rfl) rfl (by decide +kernel) (fun M2 => ?_)
  refine s_run (b := [(.iconst 0, 1), (.istore_n 3, 1)]) 12 [some (.inr (.inr x0)), some (.inl x1), some (.inl x2), some (.inl (0 : Int32)), none] [] (by decide +kernel) rfl ?_
  refine s_lsub (ls' := [some (.inr (.inr x0)), some (.inl x1), some (.inl x2), some (.inl (0 : Int32)), none]) ⟨rfl, ⟨rfl, ⟨rfl, ⟨rfl, trivial⟩⟩⟩⟩ ?_
  refine sim_bind (L_X12_waits_12 M2 x0 x1 x2 (0 : Int32) _ (fun r3 => ?_))
  change Sim l G Y_X12_waits lim _ _ 118 [none, none, none, none, none] [] r3
  exact s_vret (by decide +kernel) rfl
set_option maxRecDepth 20000 in
theorem c_X12_waits {l : Launch} {G : Gv} {M : Mem} {x0 : Nat} {x1 : Int32} {x2 : Int32} {z : Mem} (h : f_X12_waits M x0 x1 x2 = some z) : MetS l G Y_X12_waits [.inr (.inr x0), .inl x1, .inl x2] M none z :=
  met_of (ls0 := [some (.inr (.inr x0)), some (.inl x1), some (.inl x2), none, none]) (by decide) rfl (lv_in (m := 2) rfl) (sl_le (Nat.le_of_ble_eq_true rfl)) (by rw [h]; rfl) (Or.inl ⟨rfl, rfl⟩) (S_X12_waits M x0 x1 x2)
def f_X12_winsOf (M : Mem) (x0 : Nat) (x1 : Int32) (x2 : Int32) (x3 : Int32) (x4 : Int32) : Option (Int32 × Mem) :=
  (ob M 12 x0).bind fun _ => (f_X12_waits M x0 x1 x3).bind fun z1 =>
  (gI z1 12 x0 32).bind fun v2 =>
  (if v2 = (-1 : Int32) then
    some ((0 : Int32), z1)
  else
    (gI z1 12 x0 33).bind fun v4 =>
    (ob z1 12 x0).bind fun _ => (f_X12_gotBy z1 x0 x2 v4).bind fun v5 =>
    (gI z1 12 x0 32).bind fun v6 =>
    (gR z1 12 x0 30).bind fun v7 =>
    (aI z1 0 v7 x4).bind fun v8 =>
    (if v6 = v8 then
      (gI z1 12 x0 32).bind fun v10 =>
      (ob z1 12 x0).bind fun _ => (f_X12_of z1 x0 v10 (3 : Int32)).bind fun v11 =>
      some ((v5 - v11), z1)
    else
      some ((v5 - (0 : Int32)), z1)))
set_option maxRecDepth 20000 in
theorem S_X12_winsOf {l : Launch} {G : Gv} {lim : Nat × Nat} (M : Mem) (x0 : Nat) (x1 : Int32) (x2 : Int32) (x3 : Int32) (x4 : Int32) : Sim l G Y_X12_winsOf lim (f_X12_winsOf M x0 x1 x2 x3 x4) (fun z => some (some (.int z.1), z.2)) 0 [some (.inr (.inr x0)), some (.inl x1), some (.inl x2), some (.inl x3), some (.inl x4)] [] M := by
  unfold f_X12_winsOf
  refine s_run (b := [(.aload_n 0, 1), (.iload_n 1, 1), (.iload_n 3, 1)]) 3 [some (.inr (.inr x0)), some (.inl x1), some (.inl x2), some (.inl x3), some (.inl x4)] [.inl x3, .inl x1, .inr (.inr x0)] (by decide +kernel) rfl ?_
  refine s_cV (Z := Y_X12_waits) (c := 12) (vs := [.inl x1, .inl x3]) (st := []) (rO := fun _ => none) (mO := fun z => z) zk_X12_waits zi_X12_waits q1703 rfl ⟨by decide, by decide⟩ ⟨rfl, rfl⟩ rfl rfl (Nat.le_of_ble_eq_true rfl) (by decide +kernel) (fun z hz => c_X12_waits hz) (fun z1 => ?_)
  change Sim l G Y_X12_winsOf lim _ _ 6 [some (.inr (.inr x0)), some (.inl x1), some (.inl x2), some (.inl x3), some (.inl x4)] [] z1
  refine s_run (b := [(.aload_n 0, 1)]) 7 [some (.inr (.inr x0)), some (.inl x1), some (.inl x2), some (.inl x3), some (.inl x4)] [.inr (.inr x0)] (by decide +kernel) rfl ?_
  refine s_gI fl_12_297 rfl (by decide +kernel) (fun v2 => ?_)
  refine s_run (b := [(.iconst (-1), 1)]) 11 [some (.inr (.inr x0)), some (.inl x1), some (.inl x2), some (.inl x3), some (.inl x4)] [.inl (-1 : Int32), .inl v2] (by decide +kernel) rfl ?_
  refine s_ic_ne (tgt := 18) (off := 7) (by decide +kernel) (by decide) (fun h3 => ?_) (fun h3 => ?_)
  · skip
    refine s_run (b := [(.iconst 0, 1), (.goto 40, 3)]) 55 [some (.inr (.inr x0)), some (.inl x1), some (.inl x2), some (.inl x3), some (.inl x4)] [.inl (0 : Int32)] (by decide +kernel) rfl ?_
    exact s_iret (by decide +kernel) rfl
  · skip
    refine s_run (b := [(.aload_n 0, 1), (.iload_n 2, 1), (.aload_n 0, 1)]) 21 [some (.inr (.inr x0)), some (.inl x1), some (.inl x2), some (.inl x3), some (.inl x4)] [.inr (.inr x0), .inl x2, .inr (.inr x0)] (by decide +kernel) rfl ?_
    refine s_gI fl_12_300 rfl (by decide +kernel) (fun v4 => ?_)
    refine s_cV (Z := Y_X12_gotBy) (c := 12) (vs := [.inl x2, .inl v4]) (st := []) (rO := fun z => some (.inl z)) (mO := fun _ => z1) zk_X12_gotBy zi_X12_gotBy q1629 rfl ⟨by decide, by decide⟩ ⟨rfl, rfl⟩ rfl rfl (Nat.le_of_ble_eq_true rfl) (by decide +kernel) (fun z hz => c_X12_gotBy hz) (fun v5 => ?_)
    change Sim l G Y_X12_winsOf lim _ _ 27 [some (.inr (.inr x0)), some (.inl x1), some (.inl x2), some (.inl x3), some (.inl x4)] [.inl v5] z1
    refine s_run (b := [(.aload_n 0, 1)]) 28 [some (.inr (.inr x0)), some (.inl x1), some (.inl x2), some (.inl x3), some (.inl x4)] [.inr (.inr x0), .inl v5] (by decide +kernel) rfl ?_
    refine s_gI fl_12_297 rfl (by decide +kernel) (fun v6 => ?_)
    refine s_run (b := [(.aload_n 0, 1)]) 32 [some (.inr (.inr x0)), some (.inl x1), some (.inl x2), some (.inl x3), some (.inl x4)] [.inr (.inr x0), .inl v6, .inl v5] (by decide +kernel) rfl ?_
    refine s_gR fl_12_32 rfl (by decide +kernel) (fun v7 => ?_)
    refine s_run (b := [(.iload 4, 2)]) 37 [some (.inr (.inr x0)), some (.inl x1), some (.inl x2), some (.inl x3), some (.inl x4)] [.inl x4, .inr (.inr v7), .inl v6, .inl v5] (by decide +kernel) rfl ?_
    refine s_ia (by decide +kernel) (fun v8 => ?_)
    refine s_ic_ne (tgt := 53) (off := 15) (by decide +kernel) (by decide) (fun h9 => ?_) (fun h9 => ?_)
    · skip
      refine s_run (b := [(.aload_n 0, 1), (.aload_n 0, 1)]) 43 [some (.inr (.inr x0)), some (.inl x1), some (.inl x2), some (.inl x3), some (.inl x4)] [.inr (.inr x0), .inr (.inr x0), .inl v5] (by decide +kernel) rfl ?_
      refine s_gI fl_12_297 rfl (by decide +kernel) (fun v10 => ?_)
      refine s_run (b := [(.iconst 3, 1)]) 47 [some (.inr (.inr x0)), some (.inl x1), some (.inl x2), some (.inl x3), some (.inl x4)] [.inl (3 : Int32), .inl v10, .inr (.inr x0), .inl v5] (by decide +kernel) rfl ?_
      refine s_cV (Z := Y_X12_of) (c := 12) (vs := [.inl v10, .inl (3 : Int32)]) (st := [.inl v5]) (rO := fun z => some (.inl z)) (mO := fun _ => z1) zk_X12_of zi_X12_of q1558 rfl ⟨by decide, by decide⟩ ⟨rfl, rfl⟩ rfl rfl (Nat.le_of_ble_eq_true rfl) (by decide +kernel) (fun z hz => c_X12_of hz) (fun v11 => ?_)
      change Sim l G Y_X12_winsOf lim _ _ 50 [some (.inr (.inr x0)), some (.inl x1), some (.inl x2), some (.inl x3), some (.inl x4)] [.inl v11, .inl v5] z1
      refine s_run (b := [(.goto 4, 3), (.isub, 1)]) 55 [some (.inr (.inr x0)), some (.inl x1), some (.inl x2), some (.inl x3), some (.inl x4)] [.inl (v5 - v11)] (by decide +kernel) rfl ?_
      exact s_iret (by decide +kernel) rfl
    · skip
      refine s_run (b := [(.iconst 0, 1), (.isub, 1)]) 55 [some (.inr (.inr x0)), some (.inl x1), some (.inl x2), some (.inl x3), some (.inl x4)] [.inl (v5 - (0 : Int32))] (by decide +kernel) rfl ?_
      exact s_iret (by decide +kernel) rfl
set_option maxRecDepth 20000 in
theorem c_X12_winsOf {l : Launch} {G : Gv} {M : Mem} {x0 : Nat} {x1 : Int32} {x2 : Int32} {x3 : Int32} {x4 : Int32} {z : Int32 × Mem} (h : f_X12_winsOf M x0 x1 x2 x3 x4 = some z) : MetS l G Y_X12_winsOf [.inr (.inr x0), .inl x1, .inl x2, .inl x3, .inl x4] M (some (.int z.1)) z.2 :=
  met_of (ls0 := [some (.inr (.inr x0)), some (.inl x1), some (.inl x2), some (.inl x3), some (.inl x4)]) (by decide) rfl (lv_in (m := 0) rfl) (sl_le (Nat.le_of_ble_eq_true rfl)) (by rw [h]; rfl) (Or.inl ⟨rfl, rfl⟩) (S_X12_winsOf M x0 x1 x2 x3 x4)
def f_X12_isRest_B47 (M : Mem) (x0 : Nat) (x1 : Int32) (x2 : Int32) (x3 : Int32) (x5 : Int32) (x6 : Int32) (x7 : Int32) (x4 : Int32) (x8 : Int32) : Option ((Int32 × Int32 × Mem) ⊕ ((Int32 × Mem))) :=
  (if (4 : Int32) ≤ x8 then
    some (.inr (x4, M))
  else
    (if x4 = 0 then
      some (.inl ((0 : Int32), (x8 + (1 : Int32)), M))
    else
      (ob M 12 x0).bind fun _ => (f_X12_winsOf M x0 x1 x2 ((x3 &&& (((3 : Int32) <<< (x6 &&& 31)) ^^^ (-1 : Int32))) ||| (x8 <<< (x6 &&& 31))) x5).bind fun z3 =>
      (if x7 < z3.1 then
        some (.inl ((0 : Int32), (x8 + (1 : Int32)), z3.2))
      else
        some (.inl ((1 : Int32), (x8 + (1 : Int32)), z3.2)))))
def f_X12_isRest_L47 (M : Mem) (x0 : Nat) (x1 : Int32) (x2 : Int32) (x3 : Int32) (x5 : Int32) (x6 : Int32) (x7 : Int32) (x4 : Int32) (x8 : Int32) : Option ((Int32 × Mem)) := iter (fun s : Int32 × Int32 × Mem => f_X12_isRest_B47 s.2.2 x0 x1 x2 x3 x5 x6 x7 s.1 s.2.1) 1048576 (x4, x8, M)
set_option maxRecDepth 20000 in
theorem B_X12_isRest_47 {l : Launch} {G : Gv} {lim : Nat × Nat} (M : Mem) (x0 : Nat) (x1 : Int32) (x2 : Int32) (x3 : Int32) (x5 : Int32) (x6 : Int32) (x7 : Int32) (x4 : Int32) (x8 : Int32) (K : (Int32 × Int32 × Mem) ⊕ ((Int32 × Mem)) → Option (Option Value × Mem)) (kk1 : ∀ (s4 : Int32) (s8 : Int32) (s_ : Mem), SimR l G Y_X12_isRest lim (K (.inl (s4, s8, s_))) 47 [some (.inr (.inr x0)), some (.inl x1), some (.inl x2), some (.inl x3), some (.inl s4), some (.inl x5), some (.inl x6), some (.inl x7), some (.inl s8)] [] s_) (kk2_0 : ∀ (s4 : Int32) (s_ : Mem), SimR l G Y_X12_isRest lim (K (.inr (s4, s_))) 98 [some (.inr (.inr x0)), some (.inl x1), some (.inl x2), some (.inl x3), some (.inl s4), some (.inl x5), none, none, none] [] s_) : Sim l G Y_X12_isRest lim (f_X12_isRest_B47 M x0 x1 x2 x3 x5 x6 x7 x4 x8) K 47 [some (.inr (.inr x0)), some (.inl x1), some (.inl x2), some (.inl x3), some (.inl x4), some (.inl x5), some (.inl x6), some (.inl x7), some (.inl x8)] [] M := by
  unfold f_X12_isRest_B47
  refine s_run (b := [(.iload 8, 2), (.iconst 4, 1)]) 50 [some (.inr (.inr x0)), some (.inl x1), some (.inl x2), some (.inl x3), some (.inl x4), some (.inl x5), some (.inl x6), some (.inl x7), some (.inl x8)] [.inl (4 : Int32), .inl x8] (by decide +kernel) rfl ?_
  refine s_ic_ge (tgt := 98) (off := 48) (by decide +kernel) (by decide) (fun h1 => ?_) (fun h1 => ?_)
  · skip
    exact s_lsub (ls' := [some (.inr (.inr x0)), some (.inl x1), some (.inl x2), some (.inl x3), some (.inl x4), some (.inl x5), none, none, none]) ⟨rfl, ⟨rfl, ⟨rfl, ⟨rfl, ⟨rfl, ⟨rfl, trivial⟩⟩⟩⟩⟩⟩ (kk2_0 x4 M)
  · skip
    refine s_run (b := [(.iload 4, 2)]) 55 [some (.inr (.inr x0)), some (.inl x1), some (.inl x2), some (.inl x3), some (.inl x4), some (.inl x5), some (.inl x6), some (.inl x7), some (.inl x8)] [.inl x4] (by decide +kernel) rfl ?_
    refine s_if_eq (tgt := 89) (off := 34) (by decide +kernel) (by decide) (fun h2 => ?_) (fun h2 => ?_)
    · skip
      refine s_run (b := [(.iconst 0, 1), (.istore 4, 2), (.iinc 8 1, 3), (.goto (-48), 3)]) 47 [some (.inr (.inr x0)), some (.inl x1), some (.inl x2), some (.inl x3), some (.inl (0 : Int32)), some (.inl x5), some (.inl x6), some (.inl x7), some (.inl (x8 + (1 : Int32)))] [] (by decide +kernel) rfl ?_
      exact s_lsub (ls' := [some (.inr (.inr x0)), some (.inl x1), some (.inl x2), some (.inl x3), some (.inl (0 : Int32)), some (.inl x5), some (.inl x6), some (.inl x7), some (.inl (x8 + (1 : Int32)))]) ⟨rfl, ⟨rfl, ⟨rfl, ⟨rfl, ⟨rfl, ⟨rfl, ⟨rfl, ⟨rfl, ⟨rfl, trivial⟩⟩⟩⟩⟩⟩⟩⟩⟩ (kk1 (0 : Int32) (x8 + (1 : Int32)) M)
    · skip
      refine s_run (b := [(.aload_n 0, 1), (.iload_n 1, 1), (.iload_n 2, 1), (.iload_n 3, 1), (.iconst 3, 1), (.iload 6, 2), (.ishl, 1), (.iconst (-1), 1), (.ixor, 1), (.iand, 1), (.iload 8, 2), (.iload 6, 2), (.ishl, 1), (.ior, 1), (.iload 5, 2)]) 77 [some (.inr (.inr x0)), some (.inl x1), some (.inl x2), some (.inl x3), some (.inl x4), some (.inl x5), some (.inl x6), some (.inl x7), some (.inl x8)] [.inl x5, .inl ((x3 &&& (((3 : Int32) <<< (x6 &&& 31)) ^^^ (-1 : Int32))) ||| (x8 <<< (x6 &&& 31))), .inl x2, .inl x1, .inr (.inr x0)] (by decide +kernel) rfl ?_
      refine s_cV (Z := Y_X12_winsOf) (c := 12) (vs := [.inl x1, .inl x2, .inl ((x3 &&& (((3 : Int32) <<< (x6 &&& 31)) ^^^ (-1 : Int32))) ||| (x8 <<< (x6 &&& 31))), .inl x5]) (st := []) (rO := fun z => some (.inl z.1)) (mO := fun z => z.2) zk_X12_winsOf zi_X12_winsOf q1699 rfl ⟨by decide, by decide⟩ ⟨rfl, rfl⟩ rfl rfl (Nat.le_of_ble_eq_true rfl) (by decide +kernel) (fun z hz => c_X12_winsOf hz) (fun z3 => ?_)
      change Sim l G Y_X12_isRest lim _ _ 80 [some (.inr (.inr x0)), some (.inl x1), some (.inl x2), some (.inl x3), some (.inl x4), some (.inl x5), some (.inl x6), some (.inl x7), some (.inl x8)] [.inl z3.1] z3.2
      refine s_run (b := [(.iload 7, 2)]) 82 [some (.inr (.inr x0)), some (.inl x1), some (.inl x2), some (.inl x3), some (.inl x4), some (.inl x5), some (.inl x6), some (.inl x7), some (.inl x8)] [.inl x7, .inl z3.1] (by decide +kernel) rfl ?_
      refine s_ic_gt (tgt := 89) (off := 7) (by decide +kernel) (by decide) (fun h4 => ?_) (fun h4 => ?_)
      · skip
        refine s_run (b := [(.iconst 0, 1), (.istore 4, 2), (.iinc 8 1, 3), (.goto (-48), 3)]) 47 [some (.inr (.inr x0)), some (.inl x1), some (.inl x2), some (.inl x3), some (.inl (0 : Int32)), some (.inl x5), some (.inl x6), some (.inl x7), some (.inl (x8 + (1 : Int32)))] [] (by decide +kernel) rfl ?_
        exact s_lsub (ls' := [some (.inr (.inr x0)), some (.inl x1), some (.inl x2), some (.inl x3), some (.inl (0 : Int32)), some (.inl x5), some (.inl x6), some (.inl x7), some (.inl (x8 + (1 : Int32)))]) ⟨rfl, ⟨rfl, ⟨rfl, ⟨rfl, ⟨rfl, ⟨rfl, ⟨rfl, ⟨rfl, ⟨rfl, trivial⟩⟩⟩⟩⟩⟩⟩⟩⟩ (kk1 (0 : Int32) (x8 + (1 : Int32)) z3.2)
      · skip
        refine s_run (b := [(.iconst 1, 1), (.goto 4, 3), (.istore 4, 2), (.iinc 8 1, 3), (.goto (-48), 3)]) 47 [some (.inr (.inr x0)), some (.inl x1), some (.inl x2), some (.inl x3), some (.inl (1 : Int32)), some (.inl x5), some (.inl x6), some (.inl x7), some (.inl (x8 + (1 : Int32)))] [] (by decide +kernel) rfl ?_
        exact s_lsub (ls' := [some (.inr (.inr x0)), some (.inl x1), some (.inl x2), some (.inl x3), some (.inl (1 : Int32)), some (.inl x5), some (.inl x6), some (.inl x7), some (.inl (x8 + (1 : Int32)))]) ⟨rfl, ⟨rfl, ⟨rfl, ⟨rfl, ⟨rfl, ⟨rfl, ⟨rfl, ⟨rfl, ⟨rfl, trivial⟩⟩⟩⟩⟩⟩⟩⟩⟩ (kk1 (1 : Int32) (x8 + (1 : Int32)) z3.2)
set_option maxRecDepth 20000 in
theorem L_X12_isRest_47 {l : Launch} {G : Gv} {lim : Nat × Nat} (M : Mem) (x0 : Nat) (x1 : Int32) (x2 : Int32) (x3 : Int32) (x5 : Int32) (x6 : Int32) (x7 : Int32) (x4 : Int32) (x8 : Int32) (K : ((Int32 × Mem)) → Option (Option Value × Mem)) (kk2_0 : ∀ r : Int32 × Mem, SimR l G Y_X12_isRest lim (K r) 98 [some (.inr (.inr x0)), some (.inl x1), some (.inl x2), some (.inl x3), some (.inl r.1), some (.inl x5), none, none, none] [] r.2) : Sim l G Y_X12_isRest lim (f_X12_isRest_L47 M x0 x1 x2 x3 x5 x6 x7 x4 x8) K 47 [some (.inr (.inr x0)), some (.inl x1), some (.inl x2), some (.inl x3), some (.inl x4), some (.inl x5), some (.inl x6), some (.inl x7), some (.inl x8)] [] M :=
  s_iter (f := fun s : Int32 × Int32 × Mem => f_X12_isRest_B47 s.2.2 x0 x1 x2 x3 x5 x6 x7 s.1 s.2.1) (hd := 47) (cl := fun s => [some (.inr (.inr x0)), some (.inl x1), some (.inl x2), some (.inl x3), some (.inl s.1), some (.inl x5), some (.inl x6), some (.inl x7), some (.inl s.2.1)]) (cm := fun s => s.2.2) (xp := fun _ => 98) (xl := fun r => [some (.inr (.inr x0)), some (.inl x1), some (.inl x2), some (.inl x3), some (.inl r.1), some (.inl x5), none, none, none]) (xm := fun r => r.2) (fun s K h1 h2 => B_X12_isRest_47 s.2.2 x0 x1 x2 x3 x5 x6 x7 s.1 s.2.1 K (fun a4 a8 a_ => h1 (a4, a8, a_)) (fun a4 a_ => h2 (a4, a_))) 1048576 (x4, x8, M) K kk2_0
def f_X12_isRest_B6 (M : Mem) (x0 : Nat) (x1 : Int32) (x2 : Int32) (x3 : Int32) (x4 : Int32) (x5 : Int32) : Option ((Int32 × Int32 × Mem) ⊕ ((Int32 × Mem))) :=
  (gI M 12 x0 31).bind fun v1 =>
  (if v1 ≤ x5 then
    some (.inr (x4, M))
  else
    (if x4 = 0 then
      some (.inr (x4, M))
    else
      (gI M 12 x0 31).bind fun v4 =>
      (ob M 12 x0).bind fun _ => (f_X12_winsOf M x0 x1 x2 x3 x5).bind fun z5 =>
      (f_X12_isRest_L47 z5.2 x0 x1 x2 x3 x5 ((2 : Int32) * ((v4 - (1 : Int32)) - x5)) z5.1 x4 (0 : Int32)).bind fun r6 =>
      some (.inl (r6.1, (x5 + (1 : Int32)), r6.2))))
def f_X12_isRest_L6 (M : Mem) (x0 : Nat) (x1 : Int32) (x2 : Int32) (x3 : Int32) (x4 : Int32) (x5 : Int32) : Option ((Int32 × Mem)) := iter (fun s : Int32 × Int32 × Mem => f_X12_isRest_B6 s.2.2 x0 x1 x2 x3 s.1 s.2.1) 1048576 (x4, x5, M)
set_option maxRecDepth 20000 in
theorem B_X12_isRest_6 {l : Launch} {G : Gv} {lim : Nat × Nat} (M : Mem) (x0 : Nat) (x1 : Int32) (x2 : Int32) (x3 : Int32) (x4 : Int32) (x5 : Int32) (K : (Int32 × Int32 × Mem) ⊕ ((Int32 × Mem)) → Option (Option Value × Mem)) (kk1 : ∀ (s4 : Int32) (s5 : Int32) (s_ : Mem), SimR l G Y_X12_isRest lim (K (.inl (s4, s5, s_))) 6 [some (.inr (.inr x0)), some (.inl x1), some (.inl x2), some (.inl x3), some (.inl s4), some (.inl s5), none, none, none] [] s_) (kk2_0 : ∀ (s4 : Int32) (s_ : Mem), SimR l G Y_X12_isRest lim (K (.inr (s4, s_))) 104 [none, none, none, none, some (.inl s4), none, none, none, none] [] s_) : Sim l G Y_X12_isRest lim (f_X12_isRest_B6 M x0 x1 x2 x3 x4 x5) K 6 [some (.inr (.inr x0)), some (.inl x1), some (.inl x2), some (.inl x3), some (.inl x4), some (.inl x5), none, none, none] [] M := by
  unfold f_X12_isRest_B6
  refine s_run (b := [(.iload 5, 2), (.aload_n 0, 1)]) 9 [some (.inr (.inr x0)), some (.inl x1), some (.inl x2), some (.inl x3), some (.inl x4), some (.inl x5), none, none, none] [.inr (.inr x0), .inl x5] (by decide +kernel) rfl ?_
  refine s_gI fl_12_294 rfl (by decide +kernel) (fun v1 => ?_)
  refine s_ic_ge (tgt := 104) (off := 92) (by decide +kernel) (by decide) (fun h2 => ?_) (fun h2 => ?_)
  · skip
    exact s_lsub (ls' := [none, none, none, none, some (.inl x4), none, none, none, none]) ⟨rfl, trivial⟩ (kk2_0 x4 M)
  · skip
    refine s_run (b := [(.iload 4, 2)]) 17 [some (.inr (.inr x0)), some (.inl x1), some (.inl x2), some (.inl x3), some (.inl x4), some (.inl x5), none, none, none] [.inl x4] (by decide +kernel) rfl ?_
    refine s_if_eq (tgt := 104) (off := 87) (by decide +kernel) (by decide) (fun h3 => ?_) (fun h3 => ?_)
    · skip
      exact s_lsub (ls' := [none, none, none, none, some (.inl x4), none, none, none, none]) ⟨rfl, trivial⟩ (kk2_0 x4 M)
    · skip
      refine s_run (b := [(.iconst 2, 1), (.aload_n 0, 1)]) 22 [some (.inr (.inr x0)), some (.inl x1), some (.inl x2), some (.inl x3), some (.inl x4), some (.inl x5), none, none, none] [.inr (.inr x0), .inl (2 : Int32)] (by decide +kernel) rfl ?_
      refine s_gI fl_12_294 rfl (by decide +kernel) (fun v4 => ?_)
      refine s_run (b := [(.iconst 1, 1), (.isub, 1), (.iload 5, 2), (.isub, 1), (.imul, 1), (.istore 6, 2), (.aload_n 0, 1), (.iload_n 1, 1), (.iload_n 2, 1), (.iload_n 3, 1), (.iload 5, 2)]) 39 [some (.inr (.inr x0)), some (.inl x1), some (.inl x2), some (.inl x3), some (.inl x4), some (.inl x5), some (.inl ((2 : Int32) * ((v4 - (1 : Int32)) - x5))), none, none] [.inl x5, .inl x3, .inl x2, .inl x1, .inr (.inr x0)] (by decide +kernel) rfl ?_
      refine s_cV (Z := Y_X12_winsOf) (c := 12) (vs := [.inl x1, .inl x2, .inl x3, .inl x5]) (st := []) (rO := fun z => some (.inl z.1)) (mO := fun z => z.2) zk_X12_winsOf zi_X12_winsOf q1699 rfl ⟨by decide, by decide⟩ ⟨rfl, rfl⟩ rfl rfl (Nat.le_of_ble_eq_true rfl) (by decide +kernel) (fun z hz => c_X12_winsOf hz) (fun z5 => ?_)
      change Sim l G Y_X12_isRest lim _ _ 42 [some (.inr (.inr x0)), some (.inl x1), some (.inl x2), some (.inl x3), some (.inl x4), some (.inl x5), some (.inl ((2 : Int32) * ((v4 - (1 : Int32)) - x5))), none, none] [.inl z5.1] z5.2
      refine s_run (b := [(.istore 7, 2), (.iconst 0, 1), (.istore 8, 2)]) 47 [some (.inr (.inr x0)), some (.inl x1), some (.inl x2), some (.inl x3), some (.inl x4), some (.inl x5), some (.inl ((2 : Int32) * ((v4 - (1 : Int32)) - x5))), some (.inl z5.1), some (.inl (0 : Int32))] [] (by decide +kernel) rfl ?_
      refine s_lsub (ls' := [some (.inr (.inr x0)), some (.inl x1), some (.inl x2), some (.inl x3), some (.inl x4), some (.inl x5), some (.inl ((2 : Int32) * ((v4 - (1 : Int32)) - x5))), some (.inl z5.1), some (.inl (0 : Int32))]) ⟨rfl, ⟨rfl, ⟨rfl, ⟨rfl, ⟨rfl, ⟨rfl, ⟨rfl, ⟨rfl, ⟨rfl, trivial⟩⟩⟩⟩⟩⟩⟩⟩⟩ ?_
      refine sim_bind (L_X12_isRest_47 z5.2 x0 x1 x2 x3 x5 ((2 : Int32) * ((v4 - (1 : Int32)) - x5)) z5.1 x4 (0 : Int32) _ (fun r6 => ?_))
      change Sim l G Y_X12_isRest lim _ _ 98 [some (.inr (.inr x0)), some (.inl x1), some (.inl x2), some (.inl x3), some (.inl r6.1), some (.inl x5), none, none, none] [] r6.2
      refine s_run (b := [(.iinc 5 1, 3), (.goto (-95), 3)]) 6 [some (.inr (.inr x0)), some (.inl x1), some (.inl x2), some (.inl x3), some (.inl r6.1), some (.inl (x5 + (1 : Int32))), none, none, none] [] (by decide +kernel) rfl ?_
      exact s_lsub (ls' := [some (.inr (.inr x0)), some (.inl x1), some (.inl x2), some (.inl x3), some (.inl r6.1), some (.inl (x5 + (1 : Int32))), none, none, none]) ⟨rfl, ⟨rfl, ⟨rfl, ⟨rfl, ⟨rfl, ⟨rfl, trivial⟩⟩⟩⟩⟩⟩ (kk1 r6.1 (x5 + (1 : Int32)) r6.2)
set_option maxRecDepth 20000 in
theorem L_X12_isRest_6 {l : Launch} {G : Gv} {lim : Nat × Nat} (M : Mem) (x0 : Nat) (x1 : Int32) (x2 : Int32) (x3 : Int32) (x4 : Int32) (x5 : Int32) (K : ((Int32 × Mem)) → Option (Option Value × Mem)) (kk2_0 : ∀ r : Int32 × Mem, SimR l G Y_X12_isRest lim (K r) 104 [none, none, none, none, some (.inl r.1), none, none, none, none] [] r.2) : Sim l G Y_X12_isRest lim (f_X12_isRest_L6 M x0 x1 x2 x3 x4 x5) K 6 [some (.inr (.inr x0)), some (.inl x1), some (.inl x2), some (.inl x3), some (.inl x4), some (.inl x5), none, none, none] [] M :=
  s_iter (f := fun s : Int32 × Int32 × Mem => f_X12_isRest_B6 s.2.2 x0 x1 x2 x3 s.1 s.2.1) (hd := 6) (cl := fun s => [some (.inr (.inr x0)), some (.inl x1), some (.inl x2), some (.inl x3), some (.inl s.1), some (.inl s.2.1), none, none, none]) (cm := fun s => s.2.2) (xp := fun _ => 104) (xl := fun r => [none, none, none, none, some (.inl r.1), none, none, none, none]) (xm := fun r => r.2) (fun s K h1 h2 => B_X12_isRest_6 s.2.2 x0 x1 x2 x3 s.1 s.2.1 K (fun a4 a5 a_ => h1 (a4, a5, a_)) (fun a4 a_ => h2 (a4, a_))) 1048576 (x4, x5, M) K kk2_0
def f_X12_isRest (M : Mem) (x0 : Nat) (x1 : Int32) (x2 : Int32) (x3 : Int32) : Option (Int32 × Mem) :=
  (f_X12_isRest_L6 M x0 x1 x2 x3 (1 : Int32) (0 : Int32)).bind fun r1 =>
  (zr r1.1).bind fun w2 => some (w2, r1.2)
set_option maxRecDepth 20000 in
theorem S_X12_isRest {l : Launch} {G : Gv} {lim : Nat × Nat} (M : Mem) (x0 : Nat) (x1 : Int32) (x2 : Int32) (x3 : Int32) : Sim l G Y_X12_isRest lim (f_X12_isRest M x0 x1 x2 x3) (fun z => some (some (.int z.1), z.2)) 0 [some (.inr (.inr x0)), some (.inl x1), some (.inl x2), some (.inl x3), none, none, none, none, none] [] M := by
  unfold f_X12_isRest
  refine s_run (b := [(.iconst 1, 1), (.istore 4, 2), (.iconst 0, 1), (.istore 5, 2)]) 6 [some (.inr (.inr x0)), some (.inl x1), some (.inl x2), some (.inl x3), some (.inl (1 : Int32)), some (.inl (0 : Int32)), none, none, none] [] (by decide +kernel) rfl ?_
  refine s_lsub (ls' := [some (.inr (.inr x0)), some (.inl x1), some (.inl x2), some (.inl x3), some (.inl (1 : Int32)), some (.inl (0 : Int32)), none, none, none]) ⟨rfl, ⟨rfl, ⟨rfl, ⟨rfl, ⟨rfl, ⟨rfl, trivial⟩⟩⟩⟩⟩⟩ ?_
  refine sim_bind (L_X12_isRest_6 M x0 x1 x2 x3 (1 : Int32) (0 : Int32) _ (fun r1 => ?_))
  change Sim l G Y_X12_isRest lim _ _ 104 [none, none, none, none, some (.inl r1.1), none, none, none, none] [] r1.2
  refine s_run (b := [(.iload 4, 2)]) 106 [none, none, none, none, some (.inl r1.1), none, none, none, none] [.inl r1.1] (by decide +kernel) rfl ?_
  exact s_zr (fun h3 => s_bret h3 (by decide +kernel) rfl)
set_option maxRecDepth 20000 in
theorem c_X12_isRest {l : Launch} {G : Gv} {M : Mem} {x0 : Nat} {x1 : Int32} {x2 : Int32} {x3 : Int32} {z : Int32 × Mem} (h : f_X12_isRest M x0 x1 x2 x3 = some z) : MetS l G Y_X12_isRest [.inr (.inr x0), .inl x1, .inl x2, .inl x3] M (some (.int z.1)) z.2 :=
  met_of (ls0 := [some (.inr (.inr x0)), some (.inl x1), some (.inl x2), some (.inl x3), none, none, none, none, none]) (by decide) rfl (lv_in (m := 5) rfl) (sl_le (Nat.le_of_ble_eq_true rfl)) (by rw [h]; rfl) (Or.inl ⟨rfl, rfl⟩) (S_X12_isRest M x0 x1 x2 x3)
def f_X12_quickOf_J60 (M : Mem) (x0 : Nat) (x1 : Int32) (x2 : Int32) (x4 : Int32)  : Option ((Int32 × Int32 × Mem) ⊕ ((Int32 × Mem))) :=
  (gI M 12 x0 33).bind fun v1 =>
  some (.inl (v1, (x4 + (1 : Int32)), M))
set_option maxRecDepth 20000 in
theorem J_X12_quickOf_60 {l : Launch} {G : Gv} {lim : Nat × Nat} (M : Mem) (x0 : Nat) (x1 : Int32) (x2 : Int32) (x4 : Int32)  (K : (Int32 × Int32 × Mem) ⊕ ((Int32 × Mem)) → Option (Option Value × Mem)) (kk1 : ∀ (s3 : Int32) (s4 : Int32) (s_ : Mem), SimR l G Y_X12_quickOf lim (K (.inl (s3, s4, s_))) 5 [some (.inr (.inr x0)), some (.inl x1), some (.inl x2), some (.inl s3), some (.inl s4)] [] s_) (kk2_0 : ∀ (s3 : Int32) (s_ : Mem), SimR l G Y_X12_quickOf lim (K (.inr (s3, s_))) 71 [none, none, none, some (.inl s3), none] [] s_) : Sim l G Y_X12_quickOf lim (f_X12_quickOf_J60 M x0 x1 x2 x4) K 60 [some (.inr (.inr x0)), some (.inl x1), some (.inl x2), none, some (.inl x4)] [] M := by
  unfold f_X12_quickOf_J60
  refine s_run (b := [(.aload_n 0, 1)]) 61 [some (.inr (.inr x0)), some (.inl x1), some (.inl x2), none, some (.inl x4)] [.inr (.inr x0)] (by decide +kernel) rfl ?_
  refine s_gI fl_12_300 rfl (by decide +kernel) (fun v1 => ?_)
  refine s_run (b := [(.istore_n 3, 1), (.iinc 4 1, 3), (.goto (-63), 3)]) 5 [some (.inr (.inr x0)), some (.inl x1), some (.inl x2), some (.inl v1), some (.inl (x4 + (1 : Int32)))] [] (by decide +kernel) rfl ?_
  exact s_lsub (ls' := [some (.inr (.inr x0)), some (.inl x1), some (.inl x2), some (.inl v1), some (.inl (x4 + (1 : Int32)))]) ⟨rfl, ⟨rfl, ⟨rfl, ⟨rfl, ⟨rfl, trivial⟩⟩⟩⟩⟩ (kk1 v1 (x4 + (1 : Int32)) M)
def f_X12_quickOf_B5 (M : Mem) (x0 : Nat) (x1 : Int32) (x2 : Int32) (x3 : Int32) (x4 : Int32) : Option ((Int32 × Int32 × Mem) ⊕ ((Int32 × Mem))) :=
  (gI M 12 x0 31).bind fun v1 =>
  (if ((1 : Int32) <<< (((2 : Int32) * v1) &&& 31)) ≤ x4 then
    some (.inr (x3, M))
  else
    (ob M 12 x0).bind fun _ => (f_X12_isRest M x0 x1 x2 x4).bind fun z3 =>
    (if z3.1 = 0 then
      some (.inl (x3, (x4 + (1 : Int32)), z3.2))
    else
      (ob z3.2 12 x0).bind fun _ => (f_X12_waits z3.2 x0 x1 x4).bind fun z5 =>
      (gI z5 12 x0 32).bind fun v6 =>
      (if v6 = (-1 : Int32) then
        some (.inl (x3, (x4 + (1 : Int32)), z5))
      else
        (if x3 = (-1 : Int32) then
          f_X12_quickOf_J60 z5 x0 x1 x2 x4 
        else
          (gI z5 12 x0 33).bind fun v9 =>
          (if x3 ≤ v9 then
            some (.inl (x3, (x4 + (1 : Int32)), z5))
          else
            f_X12_quickOf_J60 z5 x0 x1 x2 x4 )))))
def f_X12_quickOf_L5 (M : Mem) (x0 : Nat) (x1 : Int32) (x2 : Int32) (x3 : Int32) (x4 : Int32) : Option ((Int32 × Mem)) := iter (fun s : Int32 × Int32 × Mem => f_X12_quickOf_B5 s.2.2 x0 x1 x2 s.1 s.2.1) 1048576 (x3, x4, M)
set_option maxRecDepth 20000 in
theorem B_X12_quickOf_5 {l : Launch} {G : Gv} {lim : Nat × Nat} (M : Mem) (x0 : Nat) (x1 : Int32) (x2 : Int32) (x3 : Int32) (x4 : Int32) (K : (Int32 × Int32 × Mem) ⊕ ((Int32 × Mem)) → Option (Option Value × Mem)) (kk1 : ∀ (s3 : Int32) (s4 : Int32) (s_ : Mem), SimR l G Y_X12_quickOf lim (K (.inl (s3, s4, s_))) 5 [some (.inr (.inr x0)), some (.inl x1), some (.inl x2), some (.inl s3), some (.inl s4)] [] s_) (kk2_0 : ∀ (s3 : Int32) (s_ : Mem), SimR l G Y_X12_quickOf lim (K (.inr (s3, s_))) 71 [none, none, none, some (.inl s3), none] [] s_) : Sim l G Y_X12_quickOf lim (f_X12_quickOf_B5 M x0 x1 x2 x3 x4) K 5 [some (.inr (.inr x0)), some (.inl x1), some (.inl x2), some (.inl x3), some (.inl x4)] [] M := by
  unfold f_X12_quickOf_B5
  refine s_run (b := [(.iload 4, 2), (.iconst 1, 1), (.iconst 2, 1), (.aload_n 0, 1)]) 10 [some (.inr (.inr x0)), some (.inl x1), some (.inl x2), some (.inl x3), some (.inl x4)] [.inr (.inr x0), .inl (2 : Int32), .inl (1 : Int32), .inl x4] (by decide +kernel) rfl ?_
  refine s_gI fl_12_294 rfl (by decide +kernel) (fun v1 => ?_)
  refine s_run (b := [(.imul, 1), (.ishl, 1)]) 15 [some (.inr (.inr x0)), some (.inl x1), some (.inl x2), some (.inl x3), some (.inl x4)] [.inl ((1 : Int32) <<< (((2 : Int32) * v1) &&& 31)), .inl x4] (by decide +kernel) rfl ?_
  refine s_ic_ge (tgt := 71) (off := 56) (by decide +kernel) (by decide) (fun h2 => ?_) (fun h2 => ?_)
  · skip
    exact s_lsub (ls' := [none, none, none, some (.inl x3), none]) ⟨rfl, trivial⟩ (kk2_0 x3 M)
  · skip
    refine s_run (b := [(.aload_n 0, 1), (.iload_n 1, 1), (.iload_n 2, 1), (.iload 4, 2)]) 23 [some (.inr (.inr x0)), some (.inl x1), some (.inl x2), some (.inl x3), some (.inl x4)] [.inl x4, .inl x2, .inl x1, .inr (.inr x0)] (by decide +kernel) rfl ?_
    refine s_cV (Z := Y_X12_isRest) (c := 12) (vs := [.inl x1, .inl x2, .inl x4]) (st := []) (rO := fun z => some (.inl z.1)) (mO := fun z => z.2) zk_X12_isRest zi_X12_isRest q1695 rfl ⟨by decide, by decide⟩ ⟨rfl, rfl⟩ rfl rfl (Nat.le_of_ble_eq_true rfl) (by decide +kernel) (fun z hz => c_X12_isRest hz) (fun z3 => ?_)
    change Sim l G Y_X12_quickOf lim _ _ 26 [some (.inr (.inr x0)), some (.inl x1), some (.inl x2), some (.inl x3), some (.inl x4)] [.inl z3.1] z3.2
    refine s_if_ne (tgt := 32) (off := 6) (by decide +kernel) (by decide) (fun h4 => ?_) (fun h4 => ?_)
    · skip
      refine s_run (b := [(.goto 36, 3), (.iinc 4 1, 3), (.goto (-63), 3)]) 5 [some (.inr (.inr x0)), some (.inl x1), some (.inl x2), some (.inl x3), some (.inl (x4 + (1 : Int32)))] [] (by decide +kernel) rfl ?_
      exact s_lsub (ls' := [some (.inr (.inr x0)), some (.inl x1), some (.inl x2), some (.inl x3), some (.inl (x4 + (1 : Int32)))]) ⟨rfl, ⟨rfl, ⟨rfl, ⟨rfl, ⟨rfl, trivial⟩⟩⟩⟩⟩ (kk1 x3 (x4 + (1 : Int32)) z3.2)
    · skip
      refine s_run (b := [(.aload_n 0, 1), (.iload_n 1, 1), (.iload 4, 2)]) 36 [some (.inr (.inr x0)), some (.inl x1), some (.inl x2), some (.inl x3), some (.inl x4)] [.inl x4, .inl x1, .inr (.inr x0)] (by decide +kernel) rfl ?_
      refine s_cV (Z := Y_X12_waits) (c := 12) (vs := [.inl x1, .inl x4]) (st := []) (rO := fun _ => none) (mO := fun z => z) zk_X12_waits zi_X12_waits q1703 rfl ⟨by decide, by decide⟩ ⟨rfl, rfl⟩ rfl rfl (Nat.le_of_ble_eq_true rfl) (by decide +kernel) (fun z hz => c_X12_waits hz) (fun z5 => ?_)
      change Sim l G Y_X12_quickOf lim _ _ 39 [some (.inr (.inr x0)), some (.inl x1), some (.inl x2), some (.inl x3), some (.inl x4)] [] z5
      refine s_run (b := [(.aload_n 0, 1)]) 40 [some (.inr (.inr x0)), some (.inl x1), some (.inl x2), some (.inl x3), some (.inl x4)] [.inr (.inr x0)] (by decide +kernel) rfl ?_
      refine s_gI fl_12_297 rfl (by decide +kernel) (fun v6 => ?_)
      refine s_run (b := [(.iconst (-1), 1)]) 44 [some (.inr (.inr x0)), some (.inl x1), some (.inl x2), some (.inl x3), some (.inl x4)] [.inl (-1 : Int32), .inl v6] (by decide +kernel) rfl ?_
      refine s_ic_eq (tgt := 65) (off := 21) (by decide +kernel) (by decide) (fun h7 => ?_) (fun h7 => ?_)
      · skip
        refine s_run (b := [(.iinc 4 1, 3), (.goto (-63), 3)]) 5 [some (.inr (.inr x0)), some (.inl x1), some (.inl x2), some (.inl x3), some (.inl (x4 + (1 : Int32)))] [] (by decide +kernel) rfl ?_
        exact s_lsub (ls' := [some (.inr (.inr x0)), some (.inl x1), some (.inl x2), some (.inl x3), some (.inl (x4 + (1 : Int32)))]) ⟨rfl, ⟨rfl, ⟨rfl, ⟨rfl, ⟨rfl, trivial⟩⟩⟩⟩⟩ (kk1 x3 (x4 + (1 : Int32)) z5)
      · skip
        refine s_run (b := [(.iload_n 3, 1), (.iconst (-1), 1)]) 49 [some (.inr (.inr x0)), some (.inl x1), some (.inl x2), some (.inl x3), some (.inl x4)] [.inl (-1 : Int32), .inl x3] (by decide +kernel) rfl ?_
        refine s_ic_eq (tgt := 60) (off := 11) (by decide +kernel) (by decide) (fun h8 => ?_) (fun h8 => ?_)
        · skip
          exact s_lsub (ls' := [some (.inr (.inr x0)), some (.inl x1), some (.inl x2), none, some (.inl x4)]) ⟨rfl, ⟨rfl, ⟨rfl, ⟨rfl, trivial⟩⟩⟩⟩ (J_X12_quickOf_60 z5 x0 x1 x2 x4  K kk1 kk2_0)
        · skip
          refine s_run (b := [(.aload_n 0, 1)]) 53 [some (.inr (.inr x0)), some (.inl x1), some (.inl x2), some (.inl x3), some (.inl x4)] [.inr (.inr x0)] (by decide +kernel) rfl ?_
          refine s_gI fl_12_300 rfl (by decide +kernel) (fun v9 => ?_)
          refine s_run (b := [(.iload_n 3, 1)]) 57 [some (.inr (.inr x0)), some (.inl x1), some (.inl x2), some (.inl x3), some (.inl x4)] [.inl x3, .inl v9] (by decide +kernel) rfl ?_
          refine s_ic_ge (tgt := 65) (off := 8) (by decide +kernel) (by decide) (fun h10 => ?_) (fun h10 => ?_)
          · skip
            refine s_run (b := [(.iinc 4 1, 3), (.goto (-63), 3)]) 5 [some (.inr (.inr x0)), some (.inl x1), some (.inl x2), some (.inl x3), some (.inl (x4 + (1 : Int32)))] [] (by decide +kernel) rfl ?_
            exact s_lsub (ls' := [some (.inr (.inr x0)), some (.inl x1), some (.inl x2), some (.inl x3), some (.inl (x4 + (1 : Int32)))]) ⟨rfl, ⟨rfl, ⟨rfl, ⟨rfl, ⟨rfl, trivial⟩⟩⟩⟩⟩ (kk1 x3 (x4 + (1 : Int32)) z5)
          · skip
            exact s_lsub (ls' := [some (.inr (.inr x0)), some (.inl x1), some (.inl x2), none, some (.inl x4)]) ⟨rfl, ⟨rfl, ⟨rfl, ⟨rfl, trivial⟩⟩⟩⟩ (J_X12_quickOf_60 z5 x0 x1 x2 x4  K kk1 kk2_0)
set_option maxRecDepth 20000 in
theorem L_X12_quickOf_5 {l : Launch} {G : Gv} {lim : Nat × Nat} (M : Mem) (x0 : Nat) (x1 : Int32) (x2 : Int32) (x3 : Int32) (x4 : Int32) (K : ((Int32 × Mem)) → Option (Option Value × Mem)) (kk2_0 : ∀ r : Int32 × Mem, SimR l G Y_X12_quickOf lim (K r) 71 [none, none, none, some (.inl r.1), none] [] r.2) : Sim l G Y_X12_quickOf lim (f_X12_quickOf_L5 M x0 x1 x2 x3 x4) K 5 [some (.inr (.inr x0)), some (.inl x1), some (.inl x2), some (.inl x3), some (.inl x4)] [] M :=
  s_iter (f := fun s : Int32 × Int32 × Mem => f_X12_quickOf_B5 s.2.2 x0 x1 x2 s.1 s.2.1) (hd := 5) (cl := fun s => [some (.inr (.inr x0)), some (.inl x1), some (.inl x2), some (.inl s.1), some (.inl s.2.1)]) (cm := fun s => s.2.2) (xp := fun _ => 71) (xl := fun r => [none, none, none, some (.inl r.1), none]) (xm := fun r => r.2) (fun s K h1 h2 => B_X12_quickOf_5 s.2.2 x0 x1 x2 s.1 s.2.1 K (fun a3 a4 a_ => h1 (a3, a4, a_)) (fun a3 a_ => h2 (a3, a_))) 1048576 (x3, x4, M) K kk2_0
def f_X12_quickOf (M : Mem) (x0 : Nat) (x1 : Int32) (x2 : Int32) : Option (Int32 × Mem) :=
  (f_X12_quickOf_L5 M x0 x1 x2 (-1 : Int32) (0 : Int32)).bind fun r1 =>
  some (r1.1, r1.2)
set_option maxRecDepth 20000 in
theorem S_X12_quickOf {l : Launch} {G : Gv} {lim : Nat × Nat} (M : Mem) (x0 : Nat) (x1 : Int32) (x2 : Int32) : Sim l G Y_X12_quickOf lim (f_X12_quickOf M x0 x1 x2) (fun z => some (some (.int z.1), z.2)) 0 [some (.inr (.inr x0)), some (.inl x1), some (.inl x2), none, none] [] M := by
  unfold f_X12_quickOf
  refine s_run (b := [(.iconst (-1), 1), (.istore_n 3, 1), (.iconst 0, 1), (.istore 4, 2)]) 5 [some (.inr (.inr x0)), some (.inl x1), some (.inl x2), some (.inl (-1 : Int32)), some (.inl (0 : Int32))] [] (by decide +kernel) rfl ?_
  refine s_lsub (ls' := [some (.inr (.inr x0)), some (.inl x1), some (.inl x2), some (.inl (-1 : Int32)), some (.inl (0 : Int32))]) ⟨rfl, ⟨rfl, ⟨rfl, ⟨rfl, ⟨rfl, trivial⟩⟩⟩⟩⟩ ?_
  refine sim_bind (L_X12_quickOf_5 M x0 x1 x2 (-1 : Int32) (0 : Int32) _ (fun r1 => ?_))
  change Sim l G Y_X12_quickOf lim _ _ 71 [none, none, none, some (.inl r1.1), none] [] r1.2
  refine s_run (b := [(.iload_n 3, 1)]) 72 [none, none, none, some (.inl r1.1), none] [.inl r1.1] (by decide +kernel) rfl ?_
  exact s_iret (by decide +kernel) rfl
set_option maxRecDepth 20000 in
theorem c_X12_quickOf {l : Launch} {G : Gv} {M : Mem} {x0 : Nat} {x1 : Int32} {x2 : Int32} {z : Int32 × Mem} (h : f_X12_quickOf M x0 x1 x2 = some z) : MetS l G Y_X12_quickOf [.inr (.inr x0), .inl x1, .inl x2] M (some (.int z.1)) z.2 :=
  met_of (ls0 := [some (.inr (.inr x0)), some (.inl x1), some (.inl x2), none, none]) (by decide) rfl (lv_in (m := 2) rfl) (sl_le (Nat.le_of_ble_eq_true rfl)) (by rw [h]; rfl) (Or.inl ⟨rfl, rfl⟩) (S_X12_quickOf M x0 x1 x2)
def f_X12_fewer_J63 (M : Mem) (x0 : Nat) (x2 : Int32) (x3 : Int32) (y0 : Nat) (y1 : Int32) : Option (Int32 × Mem) :=
  (pI M 12 y0 31 y1).bind fun M1 =>
  (ob M1 12 x0).bind fun _ => (f_X12_quickOf M1 x0 x2 x3).bind fun z2 =>
  some (z2.1, z2.2)
set_option maxRecDepth 20000 in
theorem J_X12_fewer_63 {l : Launch} {G : Gv} {lim : Nat × Nat} (M : Mem) (x0 : Nat) (x2 : Int32) (x3 : Int32) (y0 : Nat) (y1 : Int32)  : Sim l G Y_X12_fewer lim (f_X12_fewer_J63 M x0 x2 x3 y0 y1) (fun z => some (some (.int z.1), z.2)) 63 [some (.inr (.inr x0)), none, some (.inl x2), some (.inl x3), none] [.inl y1, .inr (.inr y0)] M := by
  unfold f_X12_fewer_J63
  refine s_pI fl_12_294 (Or.inl rfl) rfl (by decide +kernel) (fun M1 => ?_)
  refine s_run (b := [(.aload_n 0, 1), (.iload_n 2, 1), (.iload_n 3, 1)]) 69 [some (.inr (.inr x0)), none, some (.inl x2), some (.inl x3), none] [.inl x3, .inl x2, .inr (.inr x0)] (by decide +kernel) rfl ?_
  refine s_cV (Z := Y_X12_quickOf) (c := 12) (vs := [.inl x2, .inl x3]) (st := []) (rO := fun z => some (.inl z.1)) (mO := fun z => z.2) zk_X12_quickOf zi_X12_quickOf q1691 rfl ⟨by decide, by decide⟩ ⟨rfl, rfl⟩ rfl rfl (Nat.le_of_ble_eq_true rfl) (by decide +kernel) (fun z hz => c_X12_quickOf hz) (fun z2 => ?_)
  change Sim l G Y_X12_fewer lim _ _ 72 [some (.inr (.inr x0)), none, some (.inl x2), some (.inl x3), none] [.inl z2.1] z2.2
  exact s_iret (by decide +kernel) rfl
def f_X12_fewer (M : Mem) (x0 : Nat) (x1 : Int32) (x2 : Int32) (x3 : Int32) (x4 : Int32) : Option (Int32 × Mem) :=
  (ob M 12 x0).bind fun _ => (f_X12_isOffice M x0 x1).bind fun z1 =>
  (if z1.1 = 0 then
    some ((-1 : Int32), z1.2)
  else
    (ob z1.2 12 x0).bind fun _ => (f_X12_isDesk z1.2 x0 x2).bind fun v3 =>
    (if v3 = 0 then
      some ((-1 : Int32), z1.2)
    else
      (f_X12_isIn z1.2 x3 (0 : Int32) (99 : Int32)).bind fun v5 =>
      (if v5 = 0 then
        some ((-1 : Int32), z1.2)
      else
        (f_X12_isIn z1.2 x4 (0 : Int32) (8 : Int32)).bind fun v7 =>
        (if v7 = 0 then
          some ((-1 : Int32), z1.2)
        else
          (ob z1.2 12 x0).bind fun _ => (f_X12_plays z1.2 x0 x2).bind fun z9 =>
          (gI z9 12 x0 31).bind fun v10 =>
          (if v10 ≤ x4 then
            (gI z9 12 x0 31).bind fun v12 =>
            f_X12_fewer_J63 z9 x0 x2 x3 x0 v12
          else
            f_X12_fewer_J63 z9 x0 x2 x3 x0 x4)))))
set_option maxRecDepth 20000 in
theorem S_X12_fewer {l : Launch} {G : Gv} {lim : Nat × Nat} (M : Mem) (x0 : Nat) (x1 : Int32) (x2 : Int32) (x3 : Int32) (x4 : Int32) : Sim l G Y_X12_fewer lim (f_X12_fewer M x0 x1 x2 x3 x4) (fun z => some (some (.int z.1), z.2)) 0 [some (.inr (.inr x0)), some (.inl x1), some (.inl x2), some (.inl x3), some (.inl x4)] [] M := by
  unfold f_X12_fewer
  refine s_run (b := [(.aload_n 0, 1), (.iload_n 1, 1)]) 2 [some (.inr (.inr x0)), some (.inl x1), some (.inl x2), some (.inl x3), some (.inl x4)] [.inl x1, .inr (.inr x0)] (by decide +kernel) rfl ?_
  refine s_cV (Z := Y_X12_isOffice) (c := 12) (vs := [.inl x1]) (st := []) (rO := fun z => some (.inl z.1)) (mO := fun z => z.2) zk_X12_isOffice zi_X12_isOffice q1550 rfl ⟨by decide, by decide⟩ ⟨rfl, rfl⟩ rfl rfl (Nat.le_of_ble_eq_true rfl) (by decide +kernel) (fun z hz => c_X12_isOffice hz) (fun z1 => ?_)
  change Sim l G Y_X12_fewer lim _ _ 5 [some (.inr (.inr x0)), some (.inl x1), some (.inl x2), some (.inl x3), some (.inl x4)] [.inl z1.1] z1.2
  refine s_if_eq (tgt := 37) (off := 32) (by decide +kernel) (by decide) (fun h2 => ?_) (fun h2 => ?_)
  · skip
    refine s_run (b := [(.iconst (-1), 1)]) 38 [some (.inr (.inr x0)), some (.inl x1), some (.inl x2), some (.inl x3), some (.inl x4)] [.inl (-1 : Int32)] (by decide +kernel) rfl ?_
    exact s_iret (by decide +kernel) rfl
  · skip
    refine s_run (b := [(.aload_n 0, 1), (.iload_n 2, 1)]) 10 [some (.inr (.inr x0)), some (.inl x1), some (.inl x2), some (.inl x3), some (.inl x4)] [.inl x2, .inr (.inr x0)] (by decide +kernel) rfl ?_
    refine s_cV (Z := Y_X12_isDesk) (c := 12) (vs := [.inl x2]) (st := []) (rO := fun z => some (.inl z)) (mO := fun _ => z1.2) zk_X12_isDesk zi_X12_isDesk q1554 rfl ⟨by decide, by decide⟩ ⟨rfl, rfl⟩ rfl rfl (Nat.le_of_ble_eq_true rfl) (by decide +kernel) (fun z hz => c_X12_isDesk hz) (fun v3 => ?_)
    change Sim l G Y_X12_fewer lim _ _ 13 [some (.inr (.inr x0)), some (.inl x1), some (.inl x2), some (.inl x3), some (.inl x4)] [.inl v3] z1.2
    refine s_if_eq (tgt := 37) (off := 24) (by decide +kernel) (by decide) (fun h4 => ?_) (fun h4 => ?_)
    · skip
      refine s_run (b := [(.iconst (-1), 1)]) 38 [some (.inr (.inr x0)), some (.inl x1), some (.inl x2), some (.inl x3), some (.inl x4)] [.inl (-1 : Int32)] (by decide +kernel) rfl ?_
      exact s_iret (by decide +kernel) rfl
    · skip
      refine s_run (b := [(.iload_n 3, 1), (.iconst 0, 1), (.bipush 99, 2)]) 20 [some (.inr (.inr x0)), some (.inl x1), some (.inl x2), some (.inl x3), some (.inl x4)] [.inl (99 : Int32), .inl (0 : Int32), .inl x3] (by decide +kernel) rfl ?_
      refine s_cS (Z := Y_X12_isIn) (vs := [.inl x3, .inl (0 : Int32), .inl (99 : Int32)]) (st := []) (rO := fun z => some (.inl z)) (mO := fun _ => z1.2) zk_X12_isIn q1464 q1463 ⟨by decide, by decide⟩ ⟨rfl, rfl⟩ rfl rfl (Nat.le_of_ble_eq_true rfl) (by decide +kernel) (fun z hz => c_X12_isIn hz) (fun v5 => ?_)
      change Sim l G Y_X12_fewer lim _ _ 23 [some (.inr (.inr x0)), some (.inl x1), some (.inl x2), some (.inl x3), some (.inl x4)] [.inl v5] z1.2
      refine s_if_eq (tgt := 37) (off := 14) (by decide +kernel) (by decide) (fun h6 => ?_) (fun h6 => ?_)
      · skip
        refine s_run (b := [(.iconst (-1), 1)]) 38 [some (.inr (.inr x0)), some (.inl x1), some (.inl x2), some (.inl x3), some (.inl x4)] [.inl (-1 : Int32)] (by decide +kernel) rfl ?_
        exact s_iret (by decide +kernel) rfl
      · skip
        refine s_run (b := [(.iload 4, 2), (.iconst 0, 1), (.bipush 8, 2)]) 31 [some (.inr (.inr x0)), some (.inl x1), some (.inl x2), some (.inl x3), some (.inl x4)] [.inl (8 : Int32), .inl (0 : Int32), .inl x4] (by decide +kernel) rfl ?_
        refine s_cS (Z := Y_X12_isIn) (vs := [.inl x4, .inl (0 : Int32), .inl (8 : Int32)]) (st := []) (rO := fun z => some (.inl z)) (mO := fun _ => z1.2) zk_X12_isIn q1464 q1463 ⟨by decide, by decide⟩ ⟨rfl, rfl⟩ rfl rfl (Nat.le_of_ble_eq_true rfl) (by decide +kernel) (fun z hz => c_X12_isIn hz) (fun v7 => ?_)
        change Sim l G Y_X12_fewer lim _ _ 34 [some (.inr (.inr x0)), some (.inl x1), some (.inl x2), some (.inl x3), some (.inl x4)] [.inl v7] z1.2
        refine s_if_ne (tgt := 39) (off := 5) (by decide +kernel) (by decide) (fun h8 => ?_) (fun h8 => ?_)
        · skip
          refine s_run (b := [(.iconst (-1), 1)]) 38 [some (.inr (.inr x0)), some (.inl x1), some (.inl x2), some (.inl x3), some (.inl x4)] [.inl (-1 : Int32)] (by decide +kernel) rfl ?_
          exact s_iret (by decide +kernel) rfl
        · skip
          refine s_run (b := [(.aload_n 0, 1), (.iload_n 2, 1)]) 41 [some (.inr (.inr x0)), some (.inl x1), some (.inl x2), some (.inl x3), some (.inl x4)] [.inl x2, .inr (.inr x0)] (by decide +kernel) rfl ?_
          refine s_cV (Z := Y_X12_plays) (c := 12) (vs := [.inl x2]) (st := []) (rO := fun _ => none) (mO := fun z => z) zk_X12_plays zi_X12_plays q1687 rfl ⟨by decide, by decide⟩ ⟨rfl, rfl⟩ rfl rfl (Nat.le_of_ble_eq_true rfl) (by decide +kernel) (fun z hz => c_X12_plays hz) (fun z9 => ?_)
          change Sim l G Y_X12_fewer lim _ _ 44 [some (.inr (.inr x0)), some (.inl x1), some (.inl x2), some (.inl x3), some (.inl x4)] [] z9
          refine s_run (b := [(.aload_n 0, 1), (.iload 4, 2), (.aload_n 0, 1)]) 48 [some (.inr (.inr x0)), some (.inl x1), some (.inl x2), some (.inl x3), some (.inl x4)] [.inr (.inr x0), .inl x4, .inr (.inr x0)] (by decide +kernel) rfl ?_
          refine s_gI fl_12_294 rfl (by decide +kernel) (fun v10 => ?_)
          refine s_ic_ge (tgt := 59) (off := 8) (by decide +kernel) (by decide) (fun h11 => ?_) (fun h11 => ?_)
          · skip
            refine s_run (b := [(.aload_n 0, 1)]) 60 [some (.inr (.inr x0)), some (.inl x1), some (.inl x2), some (.inl x3), some (.inl x4)] [.inr (.inr x0), .inr (.inr x0)] (by decide +kernel) rfl ?_
            refine s_gI fl_12_294 rfl (by decide +kernel) (fun v12 => ?_)
            exact s_lsub (ls' := [some (.inr (.inr x0)), none, some (.inl x2), some (.inl x3), none]) ⟨rfl, ⟨rfl, ⟨rfl, trivial⟩⟩⟩ (J_X12_fewer_63 z9 x0 x2 x3 x0 v12)
          · skip
            refine s_run (b := [(.iload 4, 2), (.goto 7, 3)]) 63 [some (.inr (.inr x0)), some (.inl x1), some (.inl x2), some (.inl x3), some (.inl x4)] [.inl x4, .inr (.inr x0)] (by decide +kernel) rfl ?_
            exact s_lsub (ls' := [some (.inr (.inr x0)), none, some (.inl x2), some (.inl x3), none]) ⟨rfl, ⟨rfl, ⟨rfl, trivial⟩⟩⟩ (J_X12_fewer_63 z9 x0 x2 x3 x0 x4)
set_option maxRecDepth 20000 in
theorem c_X12_fewer {l : Launch} {G : Gv} {M : Mem} {x0 : Nat} {x1 : Int32} {x2 : Int32} {x3 : Int32} {x4 : Int32} {z : Int32 × Mem} (h : f_X12_fewer M x0 x1 x2 x3 x4 = some z) : MetS l G Y_X12_fewer [.inr (.inr x0), .inl x1, .inl x2, .inl x3, .inl x4] M (some (.int z.1)) z.2 :=
  met_of (ls0 := [some (.inr (.inr x0)), some (.inl x1), some (.inl x2), some (.inl x3), some (.inl x4)]) (by decide) rfl (lv_in (m := 0) rfl) (sl_le (Nat.le_of_ble_eq_true rfl)) (by rw [h]; rfl) (Or.inl ⟨rfl, rfl⟩) (S_X12_fewer M x0 x1 x2 x3 x4)
def f_X12_fitting_B4 (M : Mem) (x0 : Nat) (x1 : Int32) (x2 : Int32) : Option ((Int32 × Int32 × Mem) ⊕ ((Int32 × Mem))) :=
  (gI M 12 x0 12).bind fun v1 =>
  (if ((1 : Int32) <<< (v1 &&& 31)) ≤ x2 then
    some (.inr (x1, M))
  else
    (ob M 12 x0).bind fun _ => (f_X12_isSo M x0 x2).bind fun z3 =>
    (if z3.1 = 0 then
      some (.inl ((x1 + (0 : Int32)), (x2 + (1 : Int32)), z3.2))
    else
      some (.inl ((x1 + (1 : Int32)), (x2 + (1 : Int32)), z3.2))))
def f_X12_fitting_L4 (M : Mem) (x0 : Nat) (x1 : Int32) (x2 : Int32) : Option ((Int32 × Mem)) := iter (fun s : Int32 × Int32 × Mem => f_X12_fitting_B4 s.2.2 x0 s.1 s.2.1) 1048576 (x1, x2, M)
set_option maxRecDepth 20000 in
theorem B_X12_fitting_4 {l : Launch} {G : Gv} {lim : Nat × Nat} (M : Mem) (x0 : Nat) (x1 : Int32) (x2 : Int32) (K : (Int32 × Int32 × Mem) ⊕ ((Int32 × Mem)) → Option (Option Value × Mem)) (kk1 : ∀ (s1 : Int32) (s2 : Int32) (s_ : Mem), SimR l G Y_X12_fitting lim (K (.inl (s1, s2, s_))) 4 [some (.inr (.inr x0)), some (.inl s1), some (.inl s2)] [] s_) (kk2_0 : ∀ (s1 : Int32) (s_ : Mem), SimR l G Y_X12_fitting lim (K (.inr (s1, s_))) 36 [none, some (.inl s1), none] [] s_) : Sim l G Y_X12_fitting lim (f_X12_fitting_B4 M x0 x1 x2) K 4 [some (.inr (.inr x0)), some (.inl x1), some (.inl x2)] [] M := by
  unfold f_X12_fitting_B4
  refine s_run (b := [(.iload_n 2, 1), (.iconst 1, 1), (.aload_n 0, 1)]) 7 [some (.inr (.inr x0)), some (.inl x1), some (.inl x2)] [.inr (.inr x0), .inl (1 : Int32), .inl x2] (by decide +kernel) rfl ?_
  refine s_gI fl_12_162 rfl (by decide +kernel) (fun v1 => ?_)
  refine s_run (b := [(.ishl, 1)]) 11 [some (.inr (.inr x0)), some (.inl x1), some (.inl x2)] [.inl ((1 : Int32) <<< (v1 &&& 31)), .inl x2] (by decide +kernel) rfl ?_
  refine s_ic_ge (tgt := 36) (off := 25) (by decide +kernel) (by decide) (fun h2 => ?_) (fun h2 => ?_)
  · skip
    exact s_lsub (ls' := [none, some (.inl x1), none]) ⟨rfl, trivial⟩ (kk2_0 x1 M)
  · skip
    refine s_run (b := [(.iload_n 1, 1), (.aload_n 0, 1), (.iload_n 2, 1)]) 17 [some (.inr (.inr x0)), some (.inl x1), some (.inl x2)] [.inl x2, .inr (.inr x0), .inl x1] (by decide +kernel) rfl ?_
    refine s_cV (Z := Y_X12_isSo) (c := 12) (vs := [.inl x2]) (st := [.inl x1]) (rO := fun z => some (.inl z.1)) (mO := fun z => z.2) zk_X12_isSo zi_X12_isSo q1751 rfl ⟨by decide, by decide⟩ ⟨rfl, rfl⟩ rfl rfl (Nat.le_of_ble_eq_true rfl) (by decide +kernel) (fun z hz => c_X12_isSo hz) (fun z3 => ?_)
    change Sim l G Y_X12_fitting lim _ _ 20 [some (.inr (.inr x0)), some (.inl x1), some (.inl x2)] [.inl z3.1, .inl x1] z3.2
    refine s_if_eq (tgt := 27) (off := 7) (by decide +kernel) (by decide) (fun h4 => ?_) (fun h4 => ?_)
    · skip
      refine s_run (b := [(.iconst 0, 1), (.iadd, 1), (.istore_n 1, 1), (.iinc 2 1, 3), (.goto (-29), 3)]) 4 [some (.inr (.inr x0)), some (.inl (x1 + (0 : Int32))), some (.inl (x2 + (1 : Int32)))] [] (by decide +kernel) rfl ?_
      exact s_lsub (ls' := [some (.inr (.inr x0)), some (.inl (x1 + (0 : Int32))), some (.inl (x2 + (1 : Int32)))]) ⟨rfl, ⟨rfl, ⟨rfl, trivial⟩⟩⟩ (kk1 (x1 + (0 : Int32)) (x2 + (1 : Int32)) z3.2)
    · skip
      refine s_run (b := [(.iconst 1, 1), (.goto 4, 3), (.iadd, 1), (.istore_n 1, 1), (.iinc 2 1, 3), (.goto (-29), 3)]) 4 [some (.inr (.inr x0)), some (.inl (x1 + (1 : Int32))), some (.inl (x2 + (1 : Int32)))] [] (by decide +kernel) rfl ?_
      exact s_lsub (ls' := [some (.inr (.inr x0)), some (.inl (x1 + (1 : Int32))), some (.inl (x2 + (1 : Int32)))]) ⟨rfl, ⟨rfl, ⟨rfl, trivial⟩⟩⟩ (kk1 (x1 + (1 : Int32)) (x2 + (1 : Int32)) z3.2)
set_option maxRecDepth 20000 in
theorem L_X12_fitting_4 {l : Launch} {G : Gv} {lim : Nat × Nat} (M : Mem) (x0 : Nat) (x1 : Int32) (x2 : Int32) (K : ((Int32 × Mem)) → Option (Option Value × Mem)) (kk2_0 : ∀ r : Int32 × Mem, SimR l G Y_X12_fitting lim (K r) 36 [none, some (.inl r.1), none] [] r.2) : Sim l G Y_X12_fitting lim (f_X12_fitting_L4 M x0 x1 x2) K 4 [some (.inr (.inr x0)), some (.inl x1), some (.inl x2)] [] M :=
  s_iter (f := fun s : Int32 × Int32 × Mem => f_X12_fitting_B4 s.2.2 x0 s.1 s.2.1) (hd := 4) (cl := fun s => [some (.inr (.inr x0)), some (.inl s.1), some (.inl s.2.1)]) (cm := fun s => s.2.2) (xp := fun _ => 36) (xl := fun r => [none, some (.inl r.1), none]) (xm := fun r => r.2) (fun s K h1 h2 => B_X12_fitting_4 s.2.2 x0 s.1 s.2.1 K (fun a1 a2 a_ => h1 (a1, a2, a_)) (fun a1 a_ => h2 (a1, a_))) 1048576 (x1, x2, M) K kk2_0
def f_X12_fitting (M : Mem) (x0 : Nat) : Option (Int32 × Mem) :=
  (f_X12_fitting_L4 M x0 (0 : Int32) (0 : Int32)).bind fun r1 =>
  some (r1.1, r1.2)
set_option maxRecDepth 20000 in
theorem S_X12_fitting {l : Launch} {G : Gv} {lim : Nat × Nat} (M : Mem) (x0 : Nat) : Sim l G Y_X12_fitting lim (f_X12_fitting M x0) (fun z => some (some (.int z.1), z.2)) 0 [some (.inr (.inr x0)), none, none] [] M := by
  unfold f_X12_fitting
  refine s_run (b := [(.iconst 0, 1), (.istore_n 1, 1), (.iconst 0, 1), (.istore_n 2, 1)]) 4 [some (.inr (.inr x0)), some (.inl (0 : Int32)), some (.inl (0 : Int32))] [] (by decide +kernel) rfl ?_
  refine s_lsub (ls' := [some (.inr (.inr x0)), some (.inl (0 : Int32)), some (.inl (0 : Int32))]) ⟨rfl, ⟨rfl, ⟨rfl, trivial⟩⟩⟩ ?_
  refine sim_bind (L_X12_fitting_4 M x0 (0 : Int32) (0 : Int32) _ (fun r1 => ?_))
  change Sim l G Y_X12_fitting lim _ _ 36 [none, some (.inl r1.1), none] [] r1.2
  refine s_run (b := [(.iload_n 1, 1)]) 37 [none, some (.inl r1.1), none] [.inl r1.1] (by decide +kernel) rfl ?_
  exact s_iret (by decide +kernel) rfl
set_option maxRecDepth 20000 in
theorem c_X12_fitting {l : Launch} {G : Gv} {M : Mem} {x0 : Nat} {z : Int32 × Mem} (h : f_X12_fitting M x0 = some z) : MetS l G Y_X12_fitting [.inr (.inr x0)] M (some (.int z.1)) z.2 :=
  met_of (ls0 := [some (.inr (.inr x0)), none, none]) (by decide) rfl (lv_in (m := 2) rfl) (sl_le (Nat.le_of_ble_eq_true rfl)) (by rw [h]; rfl) (Or.inl ⟨rfl, rfl⟩) (S_X12_fitting M x0)
def f_X12_sureOf_B11 (M : Mem) (x0 : Nat) (x1 : Int32) (x2 : Int32) (x3 : Int32) : Option ((Int32 × Int32 × Mem) ⊕ ((Int32 × Mem))) :=
  (gI M 12 x0 12).bind fun v1 =>
  (if ((1 : Int32) <<< (v1 &&& 31)) ≤ x3 then
    some (.inr (x2, M))
  else
    (ob M 12 x0).bind fun _ => (f_X12_isSo M x0 x3).bind fun z3 =>
    (if z3.1 = 0 then
      some (.inl (x2, (x3 + (1 : Int32)), z3.2))
    else
      (if x1 = 0 then
        some (.inl ((x2 &&& x3), (x3 + (1 : Int32)), z3.2))
      else
        some (.inl ((x2 &&& (x3 ^^^ (-1 : Int32))), (x3 + (1 : Int32)), z3.2)))))
def f_X12_sureOf_L11 (M : Mem) (x0 : Nat) (x1 : Int32) (x2 : Int32) (x3 : Int32) : Option ((Int32 × Mem)) := iter (fun s : Int32 × Int32 × Mem => f_X12_sureOf_B11 s.2.2 x0 x1 s.1 s.2.1) 1048576 (x2, x3, M)
set_option maxRecDepth 20000 in
theorem B_X12_sureOf_11 {l : Launch} {G : Gv} {lim : Nat × Nat} (M : Mem) (x0 : Nat) (x1 : Int32) (x2 : Int32) (x3 : Int32) (K : (Int32 × Int32 × Mem) ⊕ ((Int32 × Mem)) → Option (Option Value × Mem)) (kk1 : ∀ (s2 : Int32) (s3 : Int32) (s_ : Mem), SimR l G Y_X12_sureOf lim (K (.inl (s2, s3, s_))) 11 [some (.inr (.inr x0)), some (.inl x1), some (.inl s2), some (.inl s3)] [] s_) (kk2_0 : ∀ (s2 : Int32) (s_ : Mem), SimR l G Y_X12_sureOf lim (K (.inr (s2, s_))) 49 [none, none, some (.inl s2), none] [] s_) : Sim l G Y_X12_sureOf lim (f_X12_sureOf_B11 M x0 x1 x2 x3) K 11 [some (.inr (.inr x0)), some (.inl x1), some (.inl x2), some (.inl x3)] [] M := by
  unfold f_X12_sureOf_B11
  refine s_run (b := [(.iload_n 3, 1), (.iconst 1, 1), (.aload_n 0, 1)]) 14 [some (.inr (.inr x0)), some (.inl x1), some (.inl x2), some (.inl x3)] [.inr (.inr x0), .inl (1 : Int32), .inl x3] (by decide +kernel) rfl ?_
  refine s_gI fl_12_162 rfl (by decide +kernel) (fun v1 => ?_)
  refine s_run (b := [(.ishl, 1)]) 18 [some (.inr (.inr x0)), some (.inl x1), some (.inl x2), some (.inl x3)] [.inl ((1 : Int32) <<< (v1 &&& 31)), .inl x3] (by decide +kernel) rfl ?_
  refine s_ic_ge (tgt := 49) (off := 31) (by decide +kernel) (by decide) (fun h2 => ?_) (fun h2 => ?_)
  · skip
    exact s_lsub (ls' := [none, none, some (.inl x2), none]) ⟨rfl, trivial⟩ (kk2_0 x2 M)
  · skip
    refine s_run (b := [(.aload_n 0, 1), (.iload_n 3, 1)]) 23 [some (.inr (.inr x0)), some (.inl x1), some (.inl x2), some (.inl x3)] [.inl x3, .inr (.inr x0)] (by decide +kernel) rfl ?_
    refine s_cV (Z := Y_X12_isSo) (c := 12) (vs := [.inl x3]) (st := []) (rO := fun z => some (.inl z.1)) (mO := fun z => z.2) zk_X12_isSo zi_X12_isSo q1751 rfl ⟨by decide, by decide⟩ ⟨rfl, rfl⟩ rfl rfl (Nat.le_of_ble_eq_true rfl) (by decide +kernel) (fun z hz => c_X12_isSo hz) (fun z3 => ?_)
    change Sim l G Y_X12_sureOf lim _ _ 26 [some (.inr (.inr x0)), some (.inl x1), some (.inl x2), some (.inl x3)] [.inl z3.1] z3.2
    refine s_if_eq (tgt := 43) (off := 17) (by decide +kernel) (by decide) (fun h4 => ?_) (fun h4 => ?_)
    · skip
      refine s_run (b := [(.iinc 3 1, 3), (.goto (-35), 3)]) 11 [some (.inr (.inr x0)), some (.inl x1), some (.inl x2), some (.inl (x3 + (1 : Int32)))] [] (by decide +kernel) rfl ?_
      exact s_lsub (ls' := [some (.inr (.inr x0)), some (.inl x1), some (.inl x2), some (.inl (x3 + (1 : Int32)))]) ⟨rfl, ⟨rfl, ⟨rfl, ⟨rfl, trivial⟩⟩⟩⟩ (kk1 x2 (x3 + (1 : Int32)) z3.2)
    · skip
      refine s_run (b := [(.iload_n 2, 1), (.iload_n 1, 1)]) 31 [some (.inr (.inr x0)), some (.inl x1), some (.inl x2), some (.inl x3)] [.inl x1, .inl x2] (by decide +kernel) rfl ?_
      refine s_if_eq (tgt := 40) (off := 9) (by decide +kernel) (by decide) (fun h5 => ?_) (fun h5 => ?_)
      · skip
        refine s_run (b := [(.iload_n 3, 1), (.iand, 1), (.istore_n 2, 1), (.iinc 3 1, 3), (.goto (-35), 3)]) 11 [some (.inr (.inr x0)), some (.inl x1), some (.inl (x2 &&& x3)), some (.inl (x3 + (1 : Int32)))] [] (by decide +kernel) rfl ?_
        exact s_lsub (ls' := [some (.inr (.inr x0)), some (.inl x1), some (.inl (x2 &&& x3)), some (.inl (x3 + (1 : Int32)))]) ⟨rfl, ⟨rfl, ⟨rfl, ⟨rfl, trivial⟩⟩⟩⟩ (kk1 (x2 &&& x3) (x3 + (1 : Int32)) z3.2)
      · skip
        refine s_run (b := [(.iload_n 3, 1), (.iconst (-1), 1), (.ixor, 1), (.goto 4, 3), (.iand, 1), (.istore_n 2, 1), (.iinc 3 1, 3), (.goto (-35), 3)]) 11 [some (.inr (.inr x0)), some (.inl x1), some (.inl (x2 &&& (x3 ^^^ (-1 : Int32)))), some (.inl (x3 + (1 : Int32)))] [] (by decide +kernel) rfl ?_
        exact s_lsub (ls' := [some (.inr (.inr x0)), some (.inl x1), some (.inl (x2 &&& (x3 ^^^ (-1 : Int32)))), some (.inl (x3 + (1 : Int32)))]) ⟨rfl, ⟨rfl, ⟨rfl, ⟨rfl, trivial⟩⟩⟩⟩ (kk1 (x2 &&& (x3 ^^^ (-1 : Int32))) (x3 + (1 : Int32)) z3.2)
set_option maxRecDepth 20000 in
theorem L_X12_sureOf_11 {l : Launch} {G : Gv} {lim : Nat × Nat} (M : Mem) (x0 : Nat) (x1 : Int32) (x2 : Int32) (x3 : Int32) (K : ((Int32 × Mem)) → Option (Option Value × Mem)) (kk2_0 : ∀ r : Int32 × Mem, SimR l G Y_X12_sureOf lim (K r) 49 [none, none, some (.inl r.1), none] [] r.2) : Sim l G Y_X12_sureOf lim (f_X12_sureOf_L11 M x0 x1 x2 x3) K 11 [some (.inr (.inr x0)), some (.inl x1), some (.inl x2), some (.inl x3)] [] M :=
  s_iter (f := fun s : Int32 × Int32 × Mem => f_X12_sureOf_B11 s.2.2 x0 x1 s.1 s.2.1) (hd := 11) (cl := fun s => [some (.inr (.inr x0)), some (.inl x1), some (.inl s.1), some (.inl s.2.1)]) (cm := fun s => s.2.2) (xp := fun _ => 49) (xl := fun r => [none, none, some (.inl r.1), none]) (xm := fun r => r.2) (fun s K h1 h2 => B_X12_sureOf_11 s.2.2 x0 x1 s.1 s.2.1 K (fun a2 a3 a_ => h1 (a2, a3, a_)) (fun a2 a_ => h2 (a2, a_))) 1048576 (x2, x3, M) K kk2_0
def f_X12_sureOf (M : Mem) (x0 : Nat) (x1 : Int32) : Option (Int32 × Mem) :=
  (gI M 12 x0 12).bind fun v1 =>
  (f_X12_sureOf_L11 M x0 x1 (((1 : Int32) <<< (v1 &&& 31)) - (1 : Int32)) (0 : Int32)).bind fun r2 =>
  some (r2.1, r2.2)
set_option maxRecDepth 20000 in
theorem S_X12_sureOf {l : Launch} {G : Gv} {lim : Nat × Nat} (M : Mem) (x0 : Nat) (x1 : Int32) : Sim l G Y_X12_sureOf lim (f_X12_sureOf M x0 x1) (fun z => some (some (.int z.1), z.2)) 0 [some (.inr (.inr x0)), some (.inl x1), none, none] [] M := by
  unfold f_X12_sureOf
  refine s_run (b := [(.iconst 1, 1), (.aload_n 0, 1)]) 2 [some (.inr (.inr x0)), some (.inl x1), none, none] [.inr (.inr x0), .inl (1 : Int32)] (by decide +kernel) rfl ?_
  refine s_gI fl_12_162 rfl (by decide +kernel) (fun v1 => ?_)
  refine s_run (b := [(.ishl, 1), (.iconst 1, 1), (.isub, 1), (.istore_n 2, 1), (.iconst 0, 1), (.istore_n 3, 1)]) 11 [some (.inr (.inr x0)), some (.inl x1), some (.inl (((1 : Int32) <<< (v1 &&& 31)) - (1 : Int32))), some (.inl (0 : Int32))] [] (by decide +kernel) rfl ?_
  refine s_lsub (ls' := [some (.inr (.inr x0)), some (.inl x1), some (.inl (((1 : Int32) <<< (v1 &&& 31)) - (1 : Int32))), some (.inl (0 : Int32))]) ⟨rfl, ⟨rfl, ⟨rfl, ⟨rfl, trivial⟩⟩⟩⟩ ?_
  refine sim_bind (L_X12_sureOf_11 M x0 x1 (((1 : Int32) <<< (v1 &&& 31)) - (1 : Int32)) (0 : Int32) _ (fun r2 => ?_))
  change Sim l G Y_X12_sureOf lim _ _ 49 [none, none, some (.inl r2.1), none] [] r2.2
  refine s_run (b := [(.iload_n 2, 1)]) 50 [none, none, some (.inl r2.1), none] [.inl r2.1] (by decide +kernel) rfl ?_
  exact s_iret (by decide +kernel) rfl
set_option maxRecDepth 20000 in
theorem c_X12_sureOf {l : Launch} {G : Gv} {M : Mem} {x0 : Nat} {x1 : Int32} {z : Int32 × Mem} (h : f_X12_sureOf M x0 x1 = some z) : MetS l G Y_X12_sureOf [.inr (.inr x0), .inl x1] M (some (.int z.1)) z.2 :=
  met_of (ls0 := [some (.inr (.inr x0)), some (.inl x1), none, none]) (by decide) rfl (lv_in (m := 2) rfl) (sl_le (Nat.le_of_ble_eq_true rfl)) (by rw [h]; rfl) (Or.inl ⟨rfl, rfl⟩) (S_X12_sureOf M x0 x1)
def f_X12_greatestOf_B2 (M : Mem) (x0 : Nat) (x1 : Int32) (x2 : Int32) : Option ((Int32 × Mem) ⊕ ((Mem))) :=
  (if (9 : Int32) ≤ x2 then
    some (.inr M)
  else
    (gR M 12 x0 36).bind fun v2 =>
    (sI M 0 v2 x2 (0 : Int32)).bind fun M3 =>
    some (.inl ((x2 + (1 : Int32)), M3)))
def f_X12_greatestOf_L2 (M : Mem) (x0 : Nat) (x1 : Int32) (x2 : Int32) : Option ((Mem)) := iter (fun s : Int32 × Mem => f_X12_greatestOf_B2 s.2 x0 x1 s.1) 1048576 (x2, M)
set_option maxRecDepth 20000 in
theorem B_X12_greatestOf_2 {l : Launch} {G : Gv} {lim : Nat × Nat} (M : Mem) (x0 : Nat) (x1 : Int32) (x2 : Int32) (K : (Int32 × Mem) ⊕ ((Mem)) → Option (Option Value × Mem)) (kk1 : ∀ (s2 : Int32) (s_ : Mem), SimR l G Y_X12_greatestOf lim (K (.inl (s2, s_))) 2 [some (.inr (.inr x0)), some (.inl x1), some (.inl s2), none] [] s_) (kk2_0 : ∀ (s_ : Mem), SimR l G Y_X12_greatestOf lim (K (.inr s_)) 21 [some (.inr (.inr x0)), some (.inl x1), none, none] [] s_) : Sim l G Y_X12_greatestOf lim (f_X12_greatestOf_B2 M x0 x1 x2) K 2 [some (.inr (.inr x0)), some (.inl x1), some (.inl x2), none] [] M := by
  unfold f_X12_greatestOf_B2
  refine s_run (b := [(.iload_n 2, 1), (.bipush 9, 2)]) 5 [some (.inr (.inr x0)), some (.inl x1), some (.inl x2), none] [.inl (9 : Int32), .inl x2] (by decide +kernel) rfl ?_
  refine s_ic_ge (tgt := 21) (off := 16) (by decide +kernel) (by decide) (fun h1 => ?_) (fun h1 => ?_)
  · skip
    exact s_lsub (ls' := [some (.inr (.inr x0)), some (.inl x1), none, none]) ⟨rfl, ⟨rfl, trivial⟩⟩ (kk2_0 M)
  · skip
    refine s_run (b := [(.aload_n 0, 1)]) 9 [some (.inr (.inr x0)), some (.inl x1), some (.inl x2), none] [.inr (.inr x0)] (by decide +kernel) rfl ?_
    refine s_gR fl_12_39 rfl (by decide +kernel) (fun v2 => ?_)
    refine s_run (b := [(.iload_n 2, 1), (.iconst 0, 1)]) 14 [some (.inr (.inr x0)), some (.inl x1), some (.inl x2), none] [.inl (0 : Int32), .inl x2, .inr (.inr v2)] (by decide +kernel) rfl ?_
    refine s_is (by decide +kernel) (fun M3 => ?_)
    refine s_run (b := [(.iinc 2 1, 3), (.goto (-16), 3)]) 2 [some (.inr (.inr x0)), some (.inl x1), some (.inl (x2 + (1 : Int32))), none] [] (by decide +kernel) rfl ?_
    exact s_lsub (ls' := [some (.inr (.inr x0)), some (.inl x1), some (.inl (x2 + (1 : Int32))), none]) ⟨rfl, ⟨rfl, ⟨rfl, trivial⟩⟩⟩ (kk1 (x2 + (1 : Int32)) M3)
set_option maxRecDepth 20000 in
theorem L_X12_greatestOf_2 {l : Launch} {G : Gv} {lim : Nat × Nat} (M : Mem) (x0 : Nat) (x1 : Int32) (x2 : Int32) (K : ((Mem)) → Option (Option Value × Mem)) (kk2_0 : ∀ r : Mem, SimR l G Y_X12_greatestOf lim (K r) 21 [some (.inr (.inr x0)), some (.inl x1), none, none] [] r) : Sim l G Y_X12_greatestOf lim (f_X12_greatestOf_L2 M x0 x1 x2) K 2 [some (.inr (.inr x0)), some (.inl x1), some (.inl x2), none] [] M :=
  s_iter (f := fun s : Int32 × Mem => f_X12_greatestOf_B2 s.2 x0 x1 s.1) (hd := 2) (cl := fun s => [some (.inr (.inr x0)), some (.inl x1), some (.inl s.1), none]) (cm := fun s => s.2) (xp := fun _ => 21) (xl := fun r => [some (.inr (.inr x0)), some (.inl x1), none, none]) (xm := fun r => r) (fun s K h1 h2 => B_X12_greatestOf_2 s.2 x0 x1 s.1 K (fun a2 a_ => h1 (a2, a_)) (fun a_ => h2 a_)) 1048576 (x2, M) K kk2_0
def f_X12_greatestOf_J71 (M : Mem) (x0 : Nat) (x1 : Int32) (x2 : Int32) (y0 : Nat) (y1 : Int32) : Option ((Int32 × Mem) ⊕ ((Mem))) :=
  (aI M 0 y0 y1).bind fun v1 =>
  (sI M 0 y0 y1 (v1 + (1 : Int32))).bind fun M2 =>
  some (.inl ((x2 + (1 : Int32)), M2))
set_option maxRecDepth 20000 in
theorem J_X12_greatestOf_71 {l : Launch} {G : Gv} {lim : Nat × Nat} (M : Mem) (x0 : Nat) (x1 : Int32) (x2 : Int32) (y0 : Nat) (y1 : Int32) (K : (Int32 × Mem) ⊕ ((Mem)) → Option (Option Value × Mem)) (kk1 : ∀ (s2 : Int32) (s_ : Mem), SimR l G Y_X12_greatestOf lim (K (.inl (s2, s_))) 23 [some (.inr (.inr x0)), some (.inl x1), some (.inl s2), none] [] s_) (kk2_0 : ∀ (s_ : Mem), SimR l G Y_X12_greatestOf lim (K (.inr s_)) 82 [some (.inr (.inr x0)), none, none, none] [] s_) : Sim l G Y_X12_greatestOf lim (f_X12_greatestOf_J71 M x0 x1 x2 y0 y1) K 71 [some (.inr (.inr x0)), some (.inl x1), some (.inl x2), none] [.inl y1, .inr (.inr y0)] M := by
  unfold f_X12_greatestOf_J71
  refine s_run (b := [(.dup2, 1)]) 72 [some (.inr (.inr x0)), some (.inl x1), some (.inl x2), none] [.inl y1, .inr (.inr y0), .inl y1, .inr (.inr y0)] (by decide +kernel) rfl ?_
  refine s_ia (by decide +kernel) (fun v1 => ?_)
  refine s_run (b := [(.iconst 1, 1), (.iadd, 1)]) 75 [some (.inr (.inr x0)), some (.inl x1), some (.inl x2), none] [.inl (v1 + (1 : Int32)), .inl y1, .inr (.inr y0)] (by decide +kernel) rfl ?_
  refine s_is (by decide +kernel) (fun M2 => ?_)
  refine s_run (b := [(.iinc 2 1, 3), (.goto (-56), 3)]) 23 [some (.inr (.inr x0)), some (.inl x1), some (.inl (x2 + (1 : Int32))), none] [] (by decide +kernel) rfl ?_
  exact s_lsub (ls' := [some (.inr (.inr x0)), some (.inl x1), some (.inl (x2 + (1 : Int32))), none]) ⟨rfl, ⟨rfl, ⟨rfl, trivial⟩⟩⟩ (kk1 (x2 + (1 : Int32)) M2)
def f_X12_greatestOf_B23 (M : Mem) (x0 : Nat) (x1 : Int32) (x2 : Int32) : Option ((Int32 × Mem) ⊕ ((Mem))) :=
  (gI M 12 x0 12).bind fun v1 =>
  (if ((1 : Int32) <<< (v1 &&& 31)) ≤ x2 then
    some (.inr M)
  else
    (ob M 12 x0).bind fun _ => (f_X12_isSo M x0 x2).bind fun z3 =>
    (if z3.1 = 0 then
      some (.inl ((x2 + (1 : Int32)), z3.2))
    else
      (ob z3.2 12 x0).bind fun _ => (f_X12_triesDeaf z3.2 x0 x2 x1).bind fun z5 =>
      (gR z5 12 x0 36).bind fun v6 =>
      (gI z5 12 x0 16).bind fun v7 =>
      (if v7 = (-1 : Int32) then
        f_X12_greatestOf_J71 z5 x0 x1 x2 v6 (8 : Int32)
      else
        (gI z5 12 x0 16).bind fun v9 =>
        f_X12_greatestOf_J71 z5 x0 x1 x2 v6 v9)))
def f_X12_greatestOf_L23 (M : Mem) (x0 : Nat) (x1 : Int32) (x2 : Int32) : Option ((Mem)) := iter (fun s : Int32 × Mem => f_X12_greatestOf_B23 s.2 x0 x1 s.1) 1048576 (x2, M)
set_option maxRecDepth 20000 in
theorem B_X12_greatestOf_23 {l : Launch} {G : Gv} {lim : Nat × Nat} (M : Mem) (x0 : Nat) (x1 : Int32) (x2 : Int32) (K : (Int32 × Mem) ⊕ ((Mem)) → Option (Option Value × Mem)) (kk1 : ∀ (s2 : Int32) (s_ : Mem), SimR l G Y_X12_greatestOf lim (K (.inl (s2, s_))) 23 [some (.inr (.inr x0)), some (.inl x1), some (.inl s2), none] [] s_) (kk2_0 : ∀ (s_ : Mem), SimR l G Y_X12_greatestOf lim (K (.inr s_)) 82 [some (.inr (.inr x0)), none, none, none] [] s_) : Sim l G Y_X12_greatestOf lim (f_X12_greatestOf_B23 M x0 x1 x2) K 23 [some (.inr (.inr x0)), some (.inl x1), some (.inl x2), none] [] M := by
  unfold f_X12_greatestOf_B23
  refine s_run (b := [(.iload_n 2, 1), (.iconst 1, 1), (.aload_n 0, 1)]) 26 [some (.inr (.inr x0)), some (.inl x1), some (.inl x2), none] [.inr (.inr x0), .inl (1 : Int32), .inl x2] (by decide +kernel) rfl ?_
  refine s_gI fl_12_162 rfl (by decide +kernel) (fun v1 => ?_)
  refine s_run (b := [(.ishl, 1)]) 30 [some (.inr (.inr x0)), some (.inl x1), some (.inl x2), none] [.inl ((1 : Int32) <<< (v1 &&& 31)), .inl x2] (by decide +kernel) rfl ?_
  refine s_ic_ge (tgt := 82) (off := 52) (by decide +kernel) (by decide) (fun h2 => ?_) (fun h2 => ?_)
  · skip
    exact s_lsub (ls' := [some (.inr (.inr x0)), none, none, none]) ⟨rfl, trivial⟩ (kk2_0 M)
  · skip
    refine s_run (b := [(.aload_n 0, 1), (.iload_n 2, 1)]) 35 [some (.inr (.inr x0)), some (.inl x1), some (.inl x2), none] [.inl x2, .inr (.inr x0)] (by decide +kernel) rfl ?_
    refine s_cV (Z := Y_X12_isSo) (c := 12) (vs := [.inl x2]) (st := []) (rO := fun z => some (.inl z.1)) (mO := fun z => z.2) zk_X12_isSo zi_X12_isSo q1751 rfl ⟨by decide, by decide⟩ ⟨rfl, rfl⟩ rfl rfl (Nat.le_of_ble_eq_true rfl) (by decide +kernel) (fun z hz => c_X12_isSo hz) (fun z3 => ?_)
    change Sim l G Y_X12_greatestOf lim _ _ 38 [some (.inr (.inr x0)), some (.inl x1), some (.inl x2), none] [.inl z3.1] z3.2
    refine s_if_ne (tgt := 44) (off := 6) (by decide +kernel) (by decide) (fun h4 => ?_) (fun h4 => ?_)
    · skip
      refine s_run (b := [(.goto 35, 3), (.iinc 2 1, 3), (.goto (-56), 3)]) 23 [some (.inr (.inr x0)), some (.inl x1), some (.inl (x2 + (1 : Int32))), none] [] (by decide +kernel) rfl ?_
      exact s_lsub (ls' := [some (.inr (.inr x0)), some (.inl x1), some (.inl (x2 + (1 : Int32))), none]) ⟨rfl, ⟨rfl, ⟨rfl, trivial⟩⟩⟩ (kk1 (x2 + (1 : Int32)) z3.2)
    · skip
      refine s_run (b := [(.aload_n 0, 1), (.iload_n 2, 1), (.iload_n 1, 1)]) 47 [some (.inr (.inr x0)), some (.inl x1), some (.inl x2), none] [.inl x1, .inl x2, .inr (.inr x0)] (by decide +kernel) rfl ?_
      refine s_cV (Z := Y_X12_triesDeaf) (c := 12) (vs := [.inl x2, .inl x1]) (st := []) (rO := fun _ => none) (mO := fun z => z) zk_X12_triesDeaf zi_X12_triesDeaf q1755 rfl ⟨by decide, by decide⟩ ⟨rfl, rfl⟩ rfl rfl (Nat.le_of_ble_eq_true rfl) (by decide +kernel) (fun z hz => c_X12_triesDeaf hz) (fun z5 => ?_)
      change Sim l G Y_X12_greatestOf lim _ _ 50 [some (.inr (.inr x0)), some (.inl x1), some (.inl x2), none] [] z5
      refine s_run (b := [(.aload_n 0, 1)]) 51 [some (.inr (.inr x0)), some (.inl x1), some (.inl x2), none] [.inr (.inr x0)] (by decide +kernel) rfl ?_
      refine s_gR fl_12_39 rfl (by decide +kernel) (fun v6 => ?_)
      refine s_run (b := [(.aload_n 0, 1)]) 55 [some (.inr (.inr x0)), some (.inl x1), some (.inl x2), none] [.inr (.inr x0), .inr (.inr v6)] (by decide +kernel) rfl ?_
      refine s_gI fl_12_195 rfl (by decide +kernel) (fun v7 => ?_)
      refine s_run (b := [(.iconst (-1), 1)]) 59 [some (.inr (.inr x0)), some (.inl x1), some (.inl x2), none] [.inl (-1 : Int32), .inl v7, .inr (.inr v6)] (by decide +kernel) rfl ?_
      refine s_ic_ne (tgt := 67) (off := 8) (by decide +kernel) (by decide) (fun h8 => ?_) (fun h8 => ?_)
      · skip
        refine s_run (b := [(.bipush 8, 2), (.goto 7, 3)]) 71 [some (.inr (.inr x0)), some (.inl x1), some (.inl x2), none] [.inl (8 : Int32), .inr (.inr v6)] (by decide +kernel) rfl ?_
        exact s_lsub (ls' := [some (.inr (.inr x0)), some (.inl x1), some (.inl x2), none]) ⟨rfl, ⟨rfl, ⟨rfl, trivial⟩⟩⟩ (J_X12_greatestOf_71 z5 x0 x1 x2 v6 (8 : Int32) K kk1 kk2_0)
      · skip
        refine s_run (b := [(.aload_n 0, 1)]) 68 [some (.inr (.inr x0)), some (.inl x1), some (.inl x2), none] [.inr (.inr x0), .inr (.inr v6)] (by decide +kernel) rfl ?_
        refine s_gI fl_12_195 rfl (by decide +kernel) (fun v9 => ?_)
        exact s_lsub (ls' := [some (.inr (.inr x0)), some (.inl x1), some (.inl x2), none]) ⟨rfl, ⟨rfl, ⟨rfl, trivial⟩⟩⟩ (J_X12_greatestOf_71 z5 x0 x1 x2 v6 v9 K kk1 kk2_0)
set_option maxRecDepth 20000 in
theorem L_X12_greatestOf_23 {l : Launch} {G : Gv} {lim : Nat × Nat} (M : Mem) (x0 : Nat) (x1 : Int32) (x2 : Int32) (K : ((Mem)) → Option (Option Value × Mem)) (kk2_0 : ∀ r : Mem, SimR l G Y_X12_greatestOf lim (K r) 82 [some (.inr (.inr x0)), none, none, none] [] r) : Sim l G Y_X12_greatestOf lim (f_X12_greatestOf_L23 M x0 x1 x2) K 23 [some (.inr (.inr x0)), some (.inl x1), some (.inl x2), none] [] M :=
  s_iter (f := fun s : Int32 × Mem => f_X12_greatestOf_B23 s.2 x0 x1 s.1) (hd := 23) (cl := fun s => [some (.inr (.inr x0)), some (.inl x1), some (.inl s.1), none]) (cm := fun s => s.2) (xp := fun _ => 82) (xl := fun r => [some (.inr (.inr x0)), none, none, none]) (xm := fun r => r) (fun s K h1 h2 => B_X12_greatestOf_23 s.2 x0 x1 s.1 K (fun a2 a_ => h1 (a2, a_)) (fun a_ => h2 a_)) 1048576 (x2, M) K kk2_0
def f_X12_greatestOf_B86 (M : Mem) (x0 : Nat) (x2 : Int32) (x3 : Int32) : Option ((Int32 × Int32) ⊕ ((Int32))) :=
  (if (9 : Int32) ≤ x3 then
    some (.inr x2)
  else
    (gR M 12 x0 36).bind fun v2 =>
    (aI M 0 v2 x3).bind fun v3 =>
    (if v3 ≤ x2 then
      some (.inl (x2, (x3 + (1 : Int32))))
    else
      (gR M 12 x0 36).bind fun v5 =>
      (aI M 0 v5 x3).bind fun v6 =>
      some (.inl (v6, (x3 + (1 : Int32))))))
def f_X12_greatestOf_L86 (M : Mem) (x0 : Nat) (x2 : Int32) (x3 : Int32) : Option ((Int32)) := iter (fun s : Int32 × Int32 => f_X12_greatestOf_B86 M x0 s.1 s.2) 1048576 (x2, x3)
set_option maxRecDepth 20000 in
theorem B_X12_greatestOf_86 {l : Launch} {G : Gv} {lim : Nat × Nat} (M : Mem) (x0 : Nat) (x2 : Int32) (x3 : Int32) (K : (Int32 × Int32) ⊕ ((Int32)) → Option (Option Value × Mem)) (kk1 : ∀ (s2 : Int32) (s3 : Int32), SimR l G Y_X12_greatestOf lim (K (.inl (s2, s3))) 86 [some (.inr (.inr x0)), none, some (.inl s2), some (.inl s3)] [] M) (kk2_0 : ∀ (s2 : Int32), SimR l G Y_X12_greatestOf lim (K (.inr s2)) 119 [none, none, some (.inl s2), none] [] M) : Sim l G Y_X12_greatestOf lim (f_X12_greatestOf_B86 M x0 x2 x3) K 86 [some (.inr (.inr x0)), none, some (.inl x2), some (.inl x3)] [] M := by
  unfold f_X12_greatestOf_B86
  refine s_run (b := [(.iload_n 3, 1), (.bipush 9, 2)]) 89 [some (.inr (.inr x0)), none, some (.inl x2), some (.inl x3)] [.inl (9 : Int32), .inl x3] (by decide +kernel) rfl ?_
  refine s_ic_ge (tgt := 119) (off := 30) (by decide +kernel) (by decide) (fun h1 => ?_) (fun h1 => ?_)
  · skip
    exact s_lsub (ls' := [none, none, some (.inl x2), none]) ⟨rfl, trivial⟩ (kk2_0 x2)
  · skip
    refine s_run (b := [(.aload_n 0, 1)]) 93 [some (.inr (.inr x0)), none, some (.inl x2), some (.inl x3)] [.inr (.inr x0)] (by decide +kernel) rfl ?_
    refine s_gR fl_12_39 rfl (by decide +kernel) (fun v2 => ?_)
    refine s_run (b := [(.iload_n 3, 1)]) 97 [some (.inr (.inr x0)), none, some (.inl x2), some (.inl x3)] [.inl x3, .inr (.inr v2)] (by decide +kernel) rfl ?_
    refine s_ia (by decide +kernel) (fun v3 => ?_)
    refine s_run (b := [(.iload_n 2, 1)]) 99 [some (.inr (.inr x0)), none, some (.inl x2), some (.inl x3)] [.inl x2, .inl v3] (by decide +kernel) rfl ?_
    refine s_ic_le (tgt := 111) (off := 12) (by decide +kernel) (by decide) (fun h4 => ?_) (fun h4 => ?_)
    · skip
      refine s_run (b := [(.iload_n 2, 1), (.istore_n 2, 1), (.iinc 3 1, 3), (.goto (-30), 3)]) 86 [some (.inr (.inr x0)), none, some (.inl x2), some (.inl (x3 + (1 : Int32)))] [] (by decide +kernel) rfl ?_
      exact s_lsub (ls' := [some (.inr (.inr x0)), none, some (.inl x2), some (.inl (x3 + (1 : Int32)))]) ⟨rfl, ⟨rfl, ⟨rfl, trivial⟩⟩⟩ (kk1 x2 (x3 + (1 : Int32)))
    · skip
      refine s_run (b := [(.aload_n 0, 1)]) 103 [some (.inr (.inr x0)), none, some (.inl x2), some (.inl x3)] [.inr (.inr x0)] (by decide +kernel) rfl ?_
      refine s_gR fl_12_39 rfl (by decide +kernel) (fun v5 => ?_)
      refine s_run (b := [(.iload_n 3, 1)]) 107 [some (.inr (.inr x0)), none, some (.inl x2), some (.inl x3)] [.inl x3, .inr (.inr v5)] (by decide +kernel) rfl ?_
      refine s_ia (by decide +kernel) (fun v6 => ?_)
      refine s_run (b := [(.goto 4, 3), (.istore_n 2, 1), (.iinc 3 1, 3), (.goto (-30), 3)]) 86 [some (.inr (.inr x0)), none, some (.inl v6), some (.inl (x3 + (1 : Int32)))] [] (by decide +kernel) rfl ?_
      exact s_lsub (ls' := [some (.inr (.inr x0)), none, some (.inl v6), some (.inl (x3 + (1 : Int32)))]) ⟨rfl, ⟨rfl, ⟨rfl, trivial⟩⟩⟩ (kk1 v6 (x3 + (1 : Int32)))
set_option maxRecDepth 20000 in
theorem L_X12_greatestOf_86 {l : Launch} {G : Gv} {lim : Nat × Nat} (M : Mem) (x0 : Nat) (x2 : Int32) (x3 : Int32) (K : ((Int32)) → Option (Option Value × Mem)) (kk2_0 : ∀ r : Int32, SimR l G Y_X12_greatestOf lim (K r) 119 [none, none, some (.inl r), none] [] M) : Sim l G Y_X12_greatestOf lim (f_X12_greatestOf_L86 M x0 x2 x3) K 86 [some (.inr (.inr x0)), none, some (.inl x2), some (.inl x3)] [] M :=
  s_iter (f := fun s : Int32 × Int32 => f_X12_greatestOf_B86 M x0 s.1 s.2) (hd := 86) (cl := fun s => [some (.inr (.inr x0)), none, some (.inl s.1), some (.inl s.2)]) (cm := fun s => M) (xp := fun _ => 119) (xl := fun r => [none, none, some (.inl r), none]) (xm := fun r => M) (fun s K h1 h2 => B_X12_greatestOf_86 M x0 s.1 s.2 K (fun a2 a3 => h1 (a2, a3)) (fun a2 => h2 a2)) 1048576 (x2, x3) K kk2_0
def f_X12_greatestOf (M : Mem) (x0 : Nat) (x1 : Int32) : Option (Int32 × Mem) :=
  (f_X12_greatestOf_L2 M x0 x1 (0 : Int32)).bind fun r1 =>
  (f_X12_greatestOf_L23 r1 x0 x1 (0 : Int32)).bind fun r2 =>
  (f_X12_greatestOf_L86 r2 x0 (0 : Int32) (0 : Int32)).bind fun r3 =>
  some (r3, r2)
set_option maxRecDepth 20000 in
theorem S_X12_greatestOf {l : Launch} {G : Gv} {lim : Nat × Nat} (M : Mem) (x0 : Nat) (x1 : Int32) : Sim l G Y_X12_greatestOf lim (f_X12_greatestOf M x0 x1) (fun z => some (some (.int z.1), z.2)) 0 [some (.inr (.inr x0)), some (.inl x1), none, none] [] M := by
  unfold f_X12_greatestOf
  refine s_run (b := [(.iconst 0, 1), (.istore_n 2, 1)]) 2 [some (.inr (.inr x0)), some (.inl x1), some (.inl (0 : Int32)), none] [] (by decide +kernel) rfl ?_
  refine s_lsub (ls' := [some (.inr (.inr x0)), some (.inl x1), some (.inl (0 : Int32)), none]) ⟨rfl, ⟨rfl, ⟨rfl, trivial⟩⟩⟩ ?_
  refine sim_bind (L_X12_greatestOf_2 M x0 x1 (0 : Int32) _ (fun r1 => ?_))
  change Sim l G Y_X12_greatestOf lim _ _ 21 [some (.inr (.inr x0)), some (.inl x1), none, none] [] r1
  refine s_run (b := [(.iconst 0, 1), (.istore_n 2, 1)]) 23 [some (.inr (.inr x0)), some (.inl x1), some (.inl (0 : Int32)), none] [] (by decide +kernel) rfl ?_
  refine s_lsub (ls' := [some (.inr (.inr x0)), some (.inl x1), some (.inl (0 : Int32)), none]) ⟨rfl, ⟨rfl, ⟨rfl, trivial⟩⟩⟩ ?_
  refine sim_bind (L_X12_greatestOf_23 r1 x0 x1 (0 : Int32) _ (fun r2 => ?_))
  change Sim l G Y_X12_greatestOf lim _ _ 82 [some (.inr (.inr x0)), none, none, none] [] r2
  refine s_run (b := [(.iconst 0, 1), (.istore_n 2, 1), (.iconst 0, 1), (.istore_n 3, 1)]) 86 [some (.inr (.inr x0)), none, some (.inl (0 : Int32)), some (.inl (0 : Int32))] [] (by decide +kernel) rfl ?_
  refine s_lsub (ls' := [some (.inr (.inr x0)), none, some (.inl (0 : Int32)), some (.inl (0 : Int32))]) ⟨rfl, ⟨rfl, ⟨rfl, trivial⟩⟩⟩ ?_
  refine sim_bind (L_X12_greatestOf_86 r2 x0 (0 : Int32) (0 : Int32) _ (fun r3 => ?_))
  change Sim l G Y_X12_greatestOf lim _ _ 119 [none, none, some (.inl r3), none] [] r2
  refine s_run (b := [(.iload_n 2, 1)]) 120 [none, none, some (.inl r3), none] [.inl r3] (by decide +kernel) rfl ?_
  exact s_iret (by decide +kernel) rfl
set_option maxRecDepth 20000 in
theorem c_X12_greatestOf {l : Launch} {G : Gv} {M : Mem} {x0 : Nat} {x1 : Int32} {z : Int32 × Mem} (h : f_X12_greatestOf M x0 x1 = some z) : MetS l G Y_X12_greatestOf [.inr (.inr x0), .inl x1] M (some (.int z.1)) z.2 :=
  met_of (ls0 := [some (.inr (.inr x0)), some (.inl x1), none, none]) (by decide) rfl (lv_in (m := 2) rfl) (sl_le (Nat.le_of_ble_eq_true rfl)) (by rw [h]; rfl) (Or.inl ⟨rfl, rfl⟩) (S_X12_greatestOf M x0 x1)
def f_X12_tryOf_B8 (M : Mem) (x0 : Nat) (x1 : Int32) (x2 : Int32) (x3 : Int32) : Option ((Int32 × Int32 × Int32 × Mem) ⊕ ((Int32 × Mem))) :=
  (gI M 12 x0 12).bind fun v1 =>
  (if v1 ≤ x3 then
    some (.inr (x1, M))
  else
    (ob M 12 x0).bind fun _ => (f_X12_greatestOf M x0 x3).bind fun z3 =>
    (if z3.1 < x2 then
      some (.inl (x3, z3.1, (x3 + (1 : Int32)), z3.2))
    else
      some (.inl (x1, x2, (x3 + (1 : Int32)), z3.2))))
def f_X12_tryOf_L8 (M : Mem) (x0 : Nat) (x1 : Int32) (x2 : Int32) (x3 : Int32) : Option ((Int32 × Mem)) := iter (fun s : Int32 × Int32 × Int32 × Mem => f_X12_tryOf_B8 s.2.2.2 x0 s.1 s.2.1 s.2.2.1) 1048576 (x1, x2, x3, M)
set_option maxRecDepth 20000 in
theorem B_X12_tryOf_8 {l : Launch} {G : Gv} {lim : Nat × Nat} (M : Mem) (x0 : Nat) (x1 : Int32) (x2 : Int32) (x3 : Int32) (K : (Int32 × Int32 × Int32 × Mem) ⊕ ((Int32 × Mem)) → Option (Option Value × Mem)) (kk1 : ∀ (s1 : Int32) (s2 : Int32) (s3 : Int32) (s_ : Mem), SimR l G Y_X12_tryOf lim (K (.inl (s1, s2, s3, s_))) 8 [some (.inr (.inr x0)), some (.inl s1), some (.inl s2), some (.inl s3), none] [] s_) (kk2_0 : ∀ (s1 : Int32) (s_ : Mem), SimR l G Y_X12_tryOf lim (K (.inr (s1, s_))) 43 [none, some (.inl s1), none, none, none] [] s_) : Sim l G Y_X12_tryOf lim (f_X12_tryOf_B8 M x0 x1 x2 x3) K 8 [some (.inr (.inr x0)), some (.inl x1), some (.inl x2), some (.inl x3), none] [] M := by
  unfold f_X12_tryOf_B8
  refine s_run (b := [(.iload_n 3, 1), (.aload_n 0, 1)]) 10 [some (.inr (.inr x0)), some (.inl x1), some (.inl x2), some (.inl x3), none] [.inr (.inr x0), .inl x3] (by decide +kernel) rfl ?_
  refine s_gI fl_12_162 rfl (by decide +kernel) (fun v1 => ?_)
  refine s_ic_ge (tgt := 43) (off := 30) (by decide +kernel) (by decide) (fun h2 => ?_) (fun h2 => ?_)
  · skip
    exact s_lsub (ls' := [none, some (.inl x1), none, none, none]) ⟨rfl, trivial⟩ (kk2_0 x1 M)
  · skip
    refine s_run (b := [(.aload_n 0, 1), (.iload_n 3, 1)]) 18 [some (.inr (.inr x0)), some (.inl x1), some (.inl x2), some (.inl x3), none] [.inl x3, .inr (.inr x0)] (by decide +kernel) rfl ?_
    refine s_cV (Z := Y_X12_greatestOf) (c := 12) (vs := [.inl x3]) (st := []) (rO := fun z => some (.inl z.1)) (mO := fun z => z.2) zk_X12_greatestOf zi_X12_greatestOf q1763 rfl ⟨by decide, by decide⟩ ⟨rfl, rfl⟩ rfl rfl (Nat.le_of_ble_eq_true rfl) (by decide +kernel) (fun z hz => c_X12_greatestOf hz) (fun z3 => ?_)
    change Sim l G Y_X12_tryOf lim _ _ 21 [some (.inr (.inr x0)), some (.inl x1), some (.inl x2), some (.inl x3), none] [.inl z3.1] z3.2
    refine s_run (b := [(.istore 4, 2), (.iload 4, 2), (.iload_n 2, 1)]) 26 [some (.inr (.inr x0)), some (.inl x1), some (.inl x2), some (.inl x3), some (.inl z3.1)] [.inl x2, .inl z3.1] (by decide +kernel) rfl ?_
    refine s_ic_lt (tgt := 32) (off := 6) (by decide +kernel) (by decide) (fun h4 => ?_) (fun h4 => ?_)
    · skip
      refine s_run (b := [(.iload_n 3, 1), (.istore_n 1, 1), (.iload 4, 2), (.istore_n 2, 1), (.iinc 3 1, 3), (.goto (-32), 3)]) 8 [some (.inr (.inr x0)), some (.inl x3), some (.inl z3.1), some (.inl (x3 + (1 : Int32))), some (.inl z3.1)] [] (by decide +kernel) rfl ?_
      exact s_lsub (ls' := [some (.inr (.inr x0)), some (.inl x3), some (.inl z3.1), some (.inl (x3 + (1 : Int32))), none]) ⟨rfl, ⟨rfl, ⟨rfl, ⟨rfl, trivial⟩⟩⟩⟩ (kk1 x3 z3.1 (x3 + (1 : Int32)) z3.2)
    · skip
      refine s_run (b := [(.goto 8, 3), (.iinc 3 1, 3), (.goto (-32), 3)]) 8 [some (.inr (.inr x0)), some (.inl x1), some (.inl x2), some (.inl (x3 + (1 : Int32))), some (.inl z3.1)] [] (by decide +kernel) rfl ?_
      exact s_lsub (ls' := [some (.inr (.inr x0)), some (.inl x1), some (.inl x2), some (.inl (x3 + (1 : Int32))), none]) ⟨rfl, ⟨rfl, ⟨rfl, ⟨rfl, trivial⟩⟩⟩⟩ (kk1 x1 x2 (x3 + (1 : Int32)) z3.2)
set_option maxRecDepth 20000 in
theorem L_X12_tryOf_8 {l : Launch} {G : Gv} {lim : Nat × Nat} (M : Mem) (x0 : Nat) (x1 : Int32) (x2 : Int32) (x3 : Int32) (K : ((Int32 × Mem)) → Option (Option Value × Mem)) (kk2_0 : ∀ r : Int32 × Mem, SimR l G Y_X12_tryOf lim (K r) 43 [none, some (.inl r.1), none, none, none] [] r.2) : Sim l G Y_X12_tryOf lim (f_X12_tryOf_L8 M x0 x1 x2 x3) K 8 [some (.inr (.inr x0)), some (.inl x1), some (.inl x2), some (.inl x3), none] [] M :=
  s_iter (f := fun s : Int32 × Int32 × Int32 × Mem => f_X12_tryOf_B8 s.2.2.2 x0 s.1 s.2.1 s.2.2.1) (hd := 8) (cl := fun s => [some (.inr (.inr x0)), some (.inl s.1), some (.inl s.2.1), some (.inl s.2.2.1), none]) (cm := fun s => s.2.2.2) (xp := fun _ => 43) (xl := fun r => [none, some (.inl r.1), none, none, none]) (xm := fun r => r.2) (fun s K h1 h2 => B_X12_tryOf_8 s.2.2.2 x0 s.1 s.2.1 s.2.2.1 K (fun a1 a2 a3 a_ => h1 (a1, a2, a3, a_)) (fun a1 a_ => h2 (a1, a_))) 1048576 (x1, x2, x3, M) K kk2_0
def f_X12_tryOf (M : Mem) (x0 : Nat) : Option (Int32 × Mem) :=
  (f_X12_tryOf_L8 M x0 (-1 : Int32) (999 : Int32) (0 : Int32)).bind fun r1 =>
  some (r1.1, r1.2)
set_option maxRecDepth 20000 in
theorem S_X12_tryOf {l : Launch} {G : Gv} {lim : Nat × Nat} (M : Mem) (x0 : Nat) : Sim l G Y_X12_tryOf lim (f_X12_tryOf M x0) (fun z => some (some (.int z.1), z.2)) 0 [some (.inr (.inr x0)), none, none, none, none] [] M := by
  unfold f_X12_tryOf
  refine s_run (b := [(.iconst (-1), 1), (.istore_n 1, 1), (.sipush 999, 3), (.istore_n 2, 1), (.iconst 0, 1), (.istore_n 3, 1)]) 8 [some (.inr (.inr x0)), some (.inl (-1 : Int32)), some (.inl (999 : Int32)), some (.inl (0 : Int32)), none] [] (by decide +kernel) rfl ?_
  refine s_lsub (ls' := [some (.inr (.inr x0)), some (.inl (-1 : Int32)), some (.inl (999 : Int32)), some (.inl (0 : Int32)), none]) ⟨rfl, ⟨rfl, ⟨rfl, ⟨rfl, trivial⟩⟩⟩⟩ ?_
  refine sim_bind (L_X12_tryOf_8 M x0 (-1 : Int32) (999 : Int32) (0 : Int32) _ (fun r1 => ?_))
  change Sim l G Y_X12_tryOf lim _ _ 43 [none, some (.inl r1.1), none, none, none] [] r1.2
  refine s_run (b := [(.iload_n 1, 1)]) 44 [none, some (.inl r1.1), none, none, none] [.inl r1.1] (by decide +kernel) rfl ?_
  exact s_iret (by decide +kernel) rfl
set_option maxRecDepth 20000 in
theorem c_X12_tryOf {l : Launch} {G : Gv} {M : Mem} {x0 : Nat} {z : Int32 × Mem} (h : f_X12_tryOf M x0 = some z) : MetS l G Y_X12_tryOf [.inr (.inr x0)] M (some (.int z.1)) z.2 :=
  met_of (ls0 := [some (.inr (.inr x0)), none, none, none, none]) (by decide) rfl (lv_in (m := 4) rfl) (sl_le (Nat.le_of_ble_eq_true rfl)) (by rw [h]; rfl) (Or.inl ⟨rfl, rfl⟩) (S_X12_tryOf M x0)
def f_X12_fits_B90 (M : Mem) (x0 : Nat) (x3 : Int32) (x5 : Int32) (x6 : Int32) : Option ((Int32 × Int32 × Mem) ⊕ ((Int32 × Mem) ⊕ (Mem))) :=
  (gI M 12 x0 12).bind fun v1 =>
  (if ((1 : Int32) <<< (v1 &&& 31)) ≤ x6 then
    some (.inr (.inr M))
  else
    (if x3 < (10 : Int32) then
      some (.inr (.inr M))
    else
      (ob M 12 x0).bind fun _ => (f_X12_isSo M x0 x6).bind fun z4 =>
      (if z4.1 = 0 then
        some (.inl (x5, (x6 + (1 : Int32)), z4.2))
      else
        (if x5 = (x3 - (10 : Int32)) then
          some (.inr (.inl (x6, z4.2)))
        else
          some (.inl ((x5 + (1 : Int32)), (x6 + (1 : Int32)), z4.2))))))
def f_X12_fits_L90 (M : Mem) (x0 : Nat) (x3 : Int32) (x5 : Int32) (x6 : Int32) : Option ((Int32 × Mem) ⊕ (Mem)) := iter (fun s : Int32 × Int32 × Mem => f_X12_fits_B90 s.2.2 x0 x3 s.1 s.2.1) 1048576 (x5, x6, M)
set_option maxRecDepth 20000 in
theorem B_X12_fits_90 {l : Launch} {G : Gv} {lim : Nat × Nat} (M : Mem) (x0 : Nat) (x3 : Int32) (x5 : Int32) (x6 : Int32) (K : (Int32 × Int32 × Mem) ⊕ ((Int32 × Mem) ⊕ (Mem)) → Option (Option Value × Mem)) (kk1 : ∀ (s5 : Int32) (s6 : Int32) (s_ : Mem), SimR l G Y_X12_fits lim (K (.inl (s5, s6, s_))) 90 [some (.inr (.inr x0)), none, none, some (.inl x3), none, some (.inl s5), some (.inl s6)] [] s_) (kk2_0 : ∀ (s6 : Int32) (s_ : Mem), SimR l G Y_X12_fits lim (K (.inr (.inl (s6, s_)))) 128 [none, none, none, none, none, none, some (.inl s6)] [] s_) (kk2_1 : ∀ (s_ : Mem), SimR l G Y_X12_fits lim (K (.inr (.inr s_))) 140 [none, none, none, none, none, none, none] [] s_) : Sim l G Y_X12_fits lim (f_X12_fits_B90 M x0 x3 x5 x6) K 90 [some (.inr (.inr x0)), none, none, some (.inl x3), none, some (.inl x5), some (.inl x6)] [] M := by
  unfold f_X12_fits_B90
  refine s_run (b := [(.iload 6, 2), (.iconst 1, 1), (.aload_n 0, 1)]) 94 [some (.inr (.inr x0)), none, none, some (.inl x3), none, some (.inl x5), some (.inl x6)] [.inr (.inr x0), .inl (1 : Int32), .inl x6] (by decide +kernel) rfl ?_
  refine s_gI fl_12_162 rfl (by decide +kernel) (fun v1 => ?_)
  refine s_run (b := [(.ishl, 1)]) 98 [some (.inr (.inr x0)), none, none, some (.inl x3), none, some (.inl x5), some (.inl x6)] [.inl ((1 : Int32) <<< (v1 &&& 31)), .inl x6] (by decide +kernel) rfl ?_
  refine s_ic_ge (tgt := 140) (off := 42) (by decide +kernel) (by decide) (fun h2 => ?_) (fun h2 => ?_)
  · skip
    exact s_lsub (ls' := [none, none, none, none, none, none, none]) trivial (kk2_1 M)
  · skip
    refine s_run (b := [(.iload_n 3, 1), (.bipush 10, 2)]) 104 [some (.inr (.inr x0)), none, none, some (.inl x3), none, some (.inl x5), some (.inl x6)] [.inl (10 : Int32), .inl x3] (by decide +kernel) rfl ?_
    refine s_ic_lt (tgt := 140) (off := 36) (by decide +kernel) (by decide) (fun h3 => ?_) (fun h3 => ?_)
    · skip
      exact s_lsub (ls' := [none, none, none, none, none, none, none]) trivial (kk2_1 M)
    · skip
      refine s_run (b := [(.aload_n 0, 1), (.iload 6, 2)]) 110 [some (.inr (.inr x0)), none, none, some (.inl x3), none, some (.inl x5), some (.inl x6)] [.inl x6, .inr (.inr x0)] (by decide +kernel) rfl ?_
      refine s_cV (Z := Y_X12_isSo) (c := 12) (vs := [.inl x6]) (st := []) (rO := fun z => some (.inl z.1)) (mO := fun z => z.2) zk_X12_isSo zi_X12_isSo q1751 rfl ⟨by decide, by decide⟩ ⟨rfl, rfl⟩ rfl rfl (Nat.le_of_ble_eq_true rfl) (by decide +kernel) (fun z hz => c_X12_isSo hz) (fun z4 => ?_)
      change Sim l G Y_X12_fits lim _ _ 113 [some (.inr (.inr x0)), none, none, some (.inl x3), none, some (.inl x5), some (.inl x6)] [.inl z4.1] z4.2
      refine s_if_ne (tgt := 119) (off := 6) (by decide +kernel) (by decide) (fun h5 => ?_) (fun h5 => ?_)
      · skip
        refine s_run (b := [(.goto 18, 3), (.iinc 6 1, 3), (.goto (-47), 3)]) 90 [some (.inr (.inr x0)), none, none, some (.inl x3), none, some (.inl x5), some (.inl (x6 + (1 : Int32)))] [] (by decide +kernel) rfl ?_
        exact s_lsub (ls' := [some (.inr (.inr x0)), none, none, some (.inl x3), none, some (.inl x5), some (.inl (x6 + (1 : Int32)))]) ⟨rfl, ⟨rfl, ⟨rfl, ⟨rfl, trivial⟩⟩⟩⟩ (kk1 x5 (x6 + (1 : Int32)) z4.2)
      · skip
        refine s_run (b := [(.iload 5, 2), (.iload_n 3, 1), (.bipush 10, 2), (.isub, 1)]) 125 [some (.inr (.inr x0)), none, none, some (.inl x3), none, some (.inl x5), some (.inl x6)] [.inl (x3 - (10 : Int32)), .inl x5] (by decide +kernel) rfl ?_
        refine s_ic_ne (tgt := 131) (off := 6) (by decide +kernel) (by decide) (fun h6 => ?_) (fun h6 => ?_)
        · skip
          exact s_lsub (ls' := [none, none, none, none, none, none, some (.inl x6)]) ⟨rfl, trivial⟩ (kk2_0 x6 z4.2)
        · skip
          refine s_run (b := [(.iinc 5 1, 3), (.iinc 6 1, 3), (.goto (-47), 3)]) 90 [some (.inr (.inr x0)), none, none, some (.inl x3), none, some (.inl (x5 + (1 : Int32))), some (.inl (x6 + (1 : Int32)))] [] (by decide +kernel) rfl ?_
          exact s_lsub (ls' := [some (.inr (.inr x0)), none, none, some (.inl x3), none, some (.inl (x5 + (1 : Int32))), some (.inl (x6 + (1 : Int32)))]) ⟨rfl, ⟨rfl, ⟨rfl, ⟨rfl, trivial⟩⟩⟩⟩ (kk1 (x5 + (1 : Int32)) (x6 + (1 : Int32)) z4.2)
set_option maxRecDepth 20000 in
theorem L_X12_fits_90 {l : Launch} {G : Gv} {lim : Nat × Nat} (M : Mem) (x0 : Nat) (x3 : Int32) (x5 : Int32) (x6 : Int32) (K : ((Int32 × Mem) ⊕ (Mem)) → Option (Option Value × Mem)) (kk2_0 : ∀ r : Int32 × Mem, SimR l G Y_X12_fits lim (K (.inl r)) 128 [none, none, none, none, none, none, some (.inl r.1)] [] r.2) (kk2_1 : ∀ r : Mem, SimR l G Y_X12_fits lim (K (.inr r)) 140 [none, none, none, none, none, none, none] [] r) : Sim l G Y_X12_fits lim (f_X12_fits_L90 M x0 x3 x5 x6) K 90 [some (.inr (.inr x0)), none, none, some (.inl x3), none, some (.inl x5), some (.inl x6)] [] M :=
  s_iter (f := fun s : Int32 × Int32 × Mem => f_X12_fits_B90 s.2.2 x0 x3 s.1 s.2.1) (hd := 90) (cl := fun s => [some (.inr (.inr x0)), none, none, some (.inl x3), none, some (.inl s.1), some (.inl s.2.1)]) (cm := fun s => s.2.2) (xp := (fun r => match r with | .inl r => 128 | .inr r => 140)) (xl := (fun r => match r with | .inl r => [none, none, none, none, none, none, some (.inl r.1)] | .inr r => [none, none, none, none, none, none, none])) (xm := (fun r => match r with | .inl r => r.2 | .inr r => r)) (fun s K h1 h2 => B_X12_fits_90 s.2.2 x0 x3 s.1 s.2.1 K (fun a5 a6 a_ => h1 (a5, a6, a_)) (fun a6 a_ => h2 (.inl (a6, a_))) (fun a_ => h2 (.inr a_))) 1048576 (x5, x6, M) K (fun r => by
    rcases r with r | r
    · exact kk2_0 r
    · exact kk2_1 r)
def f_X12_fits_J80 (M : Mem)  (y0 : Nat) (y1 : Int32) : Option (Int32 × Mem) :=
  (ob M 12 y0).bind fun _ => (f_X12_sureOf M y0 y1).bind fun z1 =>
  some (z1.1, z1.2)
set_option maxRecDepth 20000 in
theorem J_X12_fits_80 {l : Launch} {G : Gv} {lim : Nat × Nat} (M : Mem)  (y0 : Nat) (y1 : Int32)  : Sim l G Y_X12_fits lim (f_X12_fits_J80 M y0 y1) (fun z => some (some (.int z.1), z.2)) 80 [none, none, none, none, none, none, none] [.inl y1, .inr (.inr y0)] M := by
  unfold f_X12_fits_J80
  refine s_cV (Z := Y_X12_sureOf) (c := 12) (vs := [.inl y1]) (st := []) (rO := fun z => some (.inl z.1)) (mO := fun z => z.2) zk_X12_sureOf zi_X12_sureOf q1767 rfl ⟨by decide, by decide⟩ ⟨rfl, rfl⟩ rfl rfl (Nat.le_of_ble_eq_true rfl) (by decide +kernel) (fun z hz => c_X12_sureOf hz) (fun z1 => ?_)
  change Sim l G Y_X12_fits lim _ _ 83 [none, none, none, none, none, none, none] [.inl z1.1] z1.2
  exact s_iret (by decide +kernel) rfl
def f_X12_fits (M : Mem) (x0 : Nat) (x1 : Int32) (x2 : Int32) (x3 : Int32) : Option (Int32 × Mem) :=
  (ob M 12 x0).bind fun _ => (f_X12_isOffice M x0 x1).bind fun z1 =>
  (if z1.1 = 0 then
    some ((-2 : Int32), z1.2)
  else
    (ob z1.2 12 x0).bind fun _ => (f_X12_isLog z1.2 x0 x2).bind fun z3 =>
    (if z3.1 = 0 then
      some ((-2 : Int32), z3.2)
    else
      (ob z3.2 12 x0).bind fun _ => (f_X12_areThere z3.2 x0).bind fun v5 =>
      (if v5 = 0 then
        some ((-2 : Int32), z3.2)
      else
        (ob z3.2 12 x0).bind fun _ => (f_X12_fitting z3.2 x0).bind fun z7 =>
        (if x3 = 0 then
          some (z7.1, z7.2)
        else
          (f_X12_isIn z7.2 x3 (1 : Int32) (3 : Int32)).bind fun v9 =>
          (if v9 = 0 then
            ((f_X12_fits_L90 z7.2 x0 x3 (0 : Int32) (0 : Int32)).bind fun r11 => match r11 with
            | .inl r11 => some (r11.1, r11.2)
            | .inr r11 => some ((-2 : Int32), r11))
          else
            (if z7.1 = 0 then
              some ((-1 : Int32), z7.2)
            else
              (if x3 = (3 : Int32) then
                (ob z7.2 12 x0).bind fun _ => (f_X12_tryOf z7.2 x0).bind fun z14 =>
                some (z14.1, z14.2)
              else
                (if x3 = (2 : Int32) then
                  f_X12_fits_J80 z7.2  x0 (1 : Int32)
                else
                  f_X12_fits_J80 z7.2  x0 (0 : Int32)))))))))
set_option maxRecDepth 20000 in
theorem S_X12_fits {l : Launch} {G : Gv} {lim : Nat × Nat} (M : Mem) (x0 : Nat) (x1 : Int32) (x2 : Int32) (x3 : Int32) : Sim l G Y_X12_fits lim (f_X12_fits M x0 x1 x2 x3) (fun z => some (some (.int z.1), z.2)) 0 [some (.inr (.inr x0)), some (.inl x1), some (.inl x2), some (.inl x3), none, none, none] [] M := by
  unfold f_X12_fits
  refine s_run (b := [(.aload_n 0, 1), (.iload_n 1, 1)]) 2 [some (.inr (.inr x0)), some (.inl x1), some (.inl x2), some (.inl x3), none, none, none] [.inl x1, .inr (.inr x0)] (by decide +kernel) rfl ?_
  refine s_cV (Z := Y_X12_isOffice) (c := 12) (vs := [.inl x1]) (st := []) (rO := fun z => some (.inl z.1)) (mO := fun z => z.2) zk_X12_isOffice zi_X12_isOffice q1550 rfl ⟨by decide, by decide⟩ ⟨rfl, rfl⟩ rfl rfl (Nat.le_of_ble_eq_true rfl) (by decide +kernel) (fun z hz => c_X12_isOffice hz) (fun z1 => ?_)
  change Sim l G Y_X12_fits lim _ _ 5 [some (.inr (.inr x0)), some (.inl x1), some (.inl x2), some (.inl x3), none, none, none] [.inl z1.1] z1.2
  refine s_if_eq (tgt := 23) (off := 18) (by decide +kernel) (by decide) (fun h2 => ?_) (fun h2 => ?_)
  · skip
    refine s_run (b := [(.bipush (-2), 2)]) 25 [some (.inr (.inr x0)), some (.inl x1), some (.inl x2), some (.inl x3), none, none, none] [.inl (-2 : Int32)] (by decide +kernel) rfl ?_
    exact s_iret (by decide +kernel) rfl
  · skip
    refine s_run (b := [(.aload_n 0, 1), (.iload_n 2, 1)]) 10 [some (.inr (.inr x0)), some (.inl x1), some (.inl x2), some (.inl x3), none, none, none] [.inl x2, .inr (.inr x0)] (by decide +kernel) rfl ?_
    refine s_cV (Z := Y_X12_isLog) (c := 12) (vs := [.inl x2]) (st := []) (rO := fun z => some (.inl z.1)) (mO := fun z => z.2) zk_X12_isLog zi_X12_isLog q1735 rfl ⟨by decide, by decide⟩ ⟨rfl, rfl⟩ rfl rfl (Nat.le_of_ble_eq_true rfl) (by decide +kernel) (fun z hz => c_X12_isLog hz) (fun z3 => ?_)
    change Sim l G Y_X12_fits lim _ _ 13 [some (.inr (.inr x0)), some (.inl x1), some (.inl x2), some (.inl x3), none, none, none] [.inl z3.1] z3.2
    refine s_if_eq (tgt := 23) (off := 10) (by decide +kernel) (by decide) (fun h4 => ?_) (fun h4 => ?_)
    · skip
      refine s_run (b := [(.bipush (-2), 2)]) 25 [some (.inr (.inr x0)), some (.inl x1), some (.inl x2), some (.inl x3), none, none, none] [.inl (-2 : Int32)] (by decide +kernel) rfl ?_
      exact s_iret (by decide +kernel) rfl
    · skip
      refine s_run (b := [(.aload_n 0, 1)]) 17 [some (.inr (.inr x0)), some (.inl x1), some (.inl x2), some (.inl x3), none, none, none] [.inr (.inr x0)] (by decide +kernel) rfl ?_
      refine s_cV (Z := Y_X12_areThere) (c := 12) (vs := []) (st := []) (rO := fun z => some (.inl z)) (mO := fun _ => z3.2) zk_X12_areThere zi_X12_areThere q1743 rfl ⟨by decide, by decide⟩ ⟨rfl, rfl⟩ rfl rfl (Nat.le_of_ble_eq_true rfl) (by decide +kernel) (fun z hz => c_X12_areThere hz) (fun v5 => ?_)
      change Sim l G Y_X12_fits lim _ _ 20 [some (.inr (.inr x0)), some (.inl x1), some (.inl x2), some (.inl x3), none, none, none] [.inl v5] z3.2
      refine s_if_ne (tgt := 26) (off := 6) (by decide +kernel) (by decide) (fun h6 => ?_) (fun h6 => ?_)
      · skip
        refine s_run (b := [(.bipush (-2), 2)]) 25 [some (.inr (.inr x0)), some (.inl x1), some (.inl x2), some (.inl x3), none, none, none] [.inl (-2 : Int32)] (by decide +kernel) rfl ?_
        exact s_iret (by decide +kernel) rfl
      · skip
        refine s_run (b := [(.aload_n 0, 1)]) 27 [some (.inr (.inr x0)), some (.inl x1), some (.inl x2), some (.inl x3), none, none, none] [.inr (.inr x0)] (by decide +kernel) rfl ?_
        refine s_cV (Z := Y_X12_fitting) (c := 12) (vs := []) (st := []) (rO := fun z => some (.inl z.1)) (mO := fun z => z.2) zk_X12_fitting zi_X12_fitting q1747 rfl ⟨by decide, by decide⟩ ⟨rfl, rfl⟩ rfl rfl (Nat.le_of_ble_eq_true rfl) (by decide +kernel) (fun z hz => c_X12_fitting hz) (fun z7 => ?_)
        change Sim l G Y_X12_fits lim _ _ 30 [some (.inr (.inr x0)), some (.inl x1), some (.inl x2), some (.inl x3), none, none, none] [.inl z7.1] z7.2
        refine s_run (b := [(.istore 4, 2), (.iload_n 3, 1)]) 33 [some (.inr (.inr x0)), some (.inl x1), some (.inl x2), some (.inl x3), some (.inl z7.1), none, none] [.inl x3] (by decide +kernel) rfl ?_
        refine s_if_ne (tgt := 39) (off := 6) (by decide +kernel) (by decide) (fun h8 => ?_) (fun h8 => ?_)
        · skip
          refine s_run (b := [(.iload 4, 2)]) 38 [some (.inr (.inr x0)), some (.inl x1), some (.inl x2), some (.inl x3), some (.inl z7.1), none, none] [.inl z7.1] (by decide +kernel) rfl ?_
          exact s_iret (by decide +kernel) rfl
        · skip
          refine s_run (b := [(.iload_n 3, 1), (.iconst 1, 1), (.iconst 3, 1)]) 42 [some (.inr (.inr x0)), some (.inl x1), some (.inl x2), some (.inl x3), some (.inl z7.1), none, none] [.inl (3 : Int32), .inl (1 : Int32), .inl x3] (by decide +kernel) rfl ?_
          refine s_cS (Z := Y_X12_isIn) (vs := [.inl x3, .inl (1 : Int32), .inl (3 : Int32)]) (st := []) (rO := fun z => some (.inl z)) (mO := fun _ => z7.2) zk_X12_isIn q1464 q1463 ⟨by decide, by decide⟩ ⟨rfl, rfl⟩ rfl rfl (Nat.le_of_ble_eq_true rfl) (by decide +kernel) (fun z hz => c_X12_isIn hz) (fun v9 => ?_)
          change Sim l G Y_X12_fits lim _ _ 45 [some (.inr (.inr x0)), some (.inl x1), some (.inl x2), some (.inl x3), some (.inl z7.1), none, none] [.inl v9] z7.2
          refine s_if_eq (tgt := 84) (off := 39) (by decide +kernel) (by decide) (fun h10 => ?_) (fun h10 => ?_)
          · skip
            refine s_run (b := [(.iconst 0, 1), (.istore 5, 2), (.iconst 0, 1), (.istore 6, 2)]) 90 [some (.inr (.inr x0)), some (.inl x1), some (.inl x2), some (.inl x3), some (.inl z7.1), some (.inl (0 : Int32)), some (.inl (0 : Int32))] [] (by decide +kernel) rfl ?_
            refine s_lsub (ls' := [some (.inr (.inr x0)), none, none, some (.inl x3), none, some (.inl (0 : Int32)), some (.inl (0 : Int32))]) ⟨rfl, ⟨rfl, ⟨rfl, ⟨rfl, trivial⟩⟩⟩⟩ ?_
            refine sim_bind (L_X12_fits_90 z7.2 x0 x3 (0 : Int32) (0 : Int32) _ (fun r11 => ?_) (fun r11 => ?_))
            · change Sim l G Y_X12_fits lim _ _ 128 [none, none, none, none, none, none, some (.inl r11.1)] [] r11.2
              refine s_run (b := [(.iload 6, 2)]) 130 [none, none, none, none, none, none, some (.inl r11.1)] [.inl r11.1] (by decide +kernel) rfl ?_
              exact s_iret (by decide +kernel) rfl
            · change Sim l G Y_X12_fits lim _ _ 140 [none, none, none, none, none, none, none] [] r11
              refine s_run (b := [(.bipush (-2), 2)]) 142 [none, none, none, none, none, none, none] [.inl (-2 : Int32)] (by decide +kernel) rfl ?_
              exact s_iret (by decide +kernel) rfl
          · skip
            refine s_run (b := [(.iload 4, 2)]) 50 [some (.inr (.inr x0)), some (.inl x1), some (.inl x2), some (.inl x3), some (.inl z7.1), none, none] [.inl z7.1] (by decide +kernel) rfl ?_
            refine s_if_ne (tgt := 57) (off := 7) (by decide +kernel) (by decide) (fun h12 => ?_) (fun h12 => ?_)
            · skip
              refine s_run (b := [(.iconst (-1), 1), (.goto 29, 3)]) 83 [some (.inr (.inr x0)), some (.inl x1), some (.inl x2), some (.inl x3), some (.inl z7.1), none, none] [.inl (-1 : Int32)] (by decide +kernel) rfl ?_
              exact s_iret (by decide +kernel) rfl
            · skip
              refine s_run (b := [(.iload_n 3, 1), (.iconst 3, 1)]) 59 [some (.inr (.inr x0)), some (.inl x1), some (.inl x2), some (.inl x3), some (.inl z7.1), none, none] [.inl (3 : Int32), .inl x3] (by decide +kernel) rfl ?_
              refine s_ic_ne (tgt := 69) (off := 10) (by decide +kernel) (by decide) (fun h13 => ?_) (fun h13 => ?_)
              · skip
                refine s_run (b := [(.aload_n 0, 1)]) 63 [some (.inr (.inr x0)), some (.inl x1), some (.inl x2), some (.inl x3), some (.inl z7.1), none, none] [.inr (.inr x0)] (by decide +kernel) rfl ?_
                refine s_cV (Z := Y_X12_tryOf) (c := 12) (vs := []) (st := []) (rO := fun z => some (.inl z.1)) (mO := fun z => z.2) zk_X12_tryOf zi_X12_tryOf q1759 rfl ⟨by decide, by decide⟩ ⟨rfl, rfl⟩ rfl rfl (Nat.le_of_ble_eq_true rfl) (by decide +kernel) (fun z hz => c_X12_tryOf hz) (fun z14 => ?_)
                change Sim l G Y_X12_fits lim _ _ 66 [some (.inr (.inr x0)), some (.inl x1), some (.inl x2), some (.inl x3), some (.inl z7.1), none, none] [.inl z14.1] z14.2
                refine s_run (b := [(.goto 17, 3)]) 83 [some (.inr (.inr x0)), some (.inl x1), some (.inl x2), some (.inl x3), some (.inl z7.1), none, none] [.inl z14.1] (by decide +kernel) rfl ?_
                exact s_iret (by decide +kernel) rfl
              · skip
                refine s_run (b := [(.aload_n 0, 1), (.iload_n 3, 1), (.iconst 2, 1)]) 72 [some (.inr (.inr x0)), some (.inl x1), some (.inl x2), some (.inl x3), some (.inl z7.1), none, none] [.inl (2 : Int32), .inl x3, .inr (.inr x0)] (by decide +kernel) rfl ?_
                refine s_ic_ne (tgt := 79) (off := 7) (by decide +kernel) (by decide) (fun h15 => ?_) (fun h15 => ?_)
                · skip
                  refine s_run (b := [(.iconst 1, 1), (.goto 4, 3)]) 80 [some (.inr (.inr x0)), some (.inl x1), some (.inl x2), some (.inl x3), some (.inl z7.1), none, none] [.inl (1 : Int32), .inr (.inr x0)] (by decide +kernel) rfl ?_
                  exact s_lsub (ls' := [none, none, none, none, none, none, none]) trivial (J_X12_fits_80 z7.2  x0 (1 : Int32))
                · skip
                  refine s_run (b := [(.iconst 0, 1)]) 80 [some (.inr (.inr x0)), some (.inl x1), some (.inl x2), some (.inl x3), some (.inl z7.1), none, none] [.inl (0 : Int32), .inr (.inr x0)] (by decide +kernel) rfl ?_
                  exact s_lsub (ls' := [none, none, none, none, none, none, none]) trivial (J_X12_fits_80 z7.2  x0 (0 : Int32))
set_option maxRecDepth 20000 in
theorem c_X12_fits {l : Launch} {G : Gv} {M : Mem} {x0 : Nat} {x1 : Int32} {x2 : Int32} {x3 : Int32} {z : Int32 × Mem} (h : f_X12_fits M x0 x1 x2 x3 = some z) : MetS l G Y_X12_fits [.inr (.inr x0), .inl x1, .inl x2, .inl x3] M (some (.int z.1)) z.2 :=
  met_of (ls0 := [some (.inr (.inr x0)), some (.inl x1), some (.inl x2), some (.inl x3), none, none, none]) (by decide) rfl (lv_in (m := 3) rfl) (sl_le (Nat.le_of_ble_eq_true rfl)) (by rw [h]; rfl) (Or.inl ⟨rfl, rfl⟩) (S_X12_fits M x0 x1 x2 x3)
def f_X12_mayHave (M : Mem) (x0 : Nat) (x1 : Int32) (x2 : Int32) : Option (Int32) :=
  (ob M 12 x0).bind fun _ => (f_X12_ofCall M x0 x2 (0 : Int32)).bind fun v1 =>
  (if x1 = v1 then
    some (1 : Int32)
  else
    (ob M 12 x0).bind fun _ => (f_X12_ofCall M x0 x2 (0 : Int32)).bind fun v3 =>
    (ob M 12 x0).bind fun _ => (f_X12_hears M x0 x1 v3).bind fun v4 =>
    (if v4 = 0 then
      some (0 : Int32)
    else
      some (1 : Int32)))
set_option maxRecDepth 20000 in
theorem S_X12_mayHave {l : Launch} {G : Gv} {lim : Nat × Nat} (M : Mem) (x0 : Nat) (x1 : Int32) (x2 : Int32) : Sim l G Y_X12_mayHave lim (f_X12_mayHave M x0 x1 x2) (fun z => some (some (.int z), M)) 0 [some (.inr (.inr x0)), some (.inl x1), some (.inl x2)] [] M := by
  unfold f_X12_mayHave
  refine s_run (b := [(.iload_n 1, 1), (.aload_n 0, 1), (.iload_n 2, 1), (.iconst 0, 1)]) 4 [some (.inr (.inr x0)), some (.inl x1), some (.inl x2)] [.inl (0 : Int32), .inl x2, .inr (.inr x0), .inl x1] (by decide +kernel) rfl ?_
  refine s_cV (Z := Y_X12_ofCall) (c := 12) (vs := [.inl x2, .inl (0 : Int32)]) (st := [.inl x1]) (rO := fun z => some (.inl z)) (mO := fun _ => M) zk_X12_ofCall zi_X12_ofCall q1566 rfl ⟨by decide, by decide⟩ ⟨rfl, rfl⟩ rfl rfl (Nat.le_of_ble_eq_true rfl) (by decide +kernel) (fun z hz => c_X12_ofCall hz) (fun v1 => ?_)
  change Sim l G Y_X12_mayHave lim _ _ 7 [some (.inr (.inr x0)), some (.inl x1), some (.inl x2)] [.inl v1, .inl x1] M
  refine s_ic_eq (tgt := 24) (off := 17) (by decide +kernel) (by decide) (fun h2 => ?_) (fun h2 => ?_)
  · skip
    refine s_run (b := [(.iconst 1, 1), (.goto 4, 3)]) 29 [some (.inr (.inr x0)), some (.inl x1), some (.inl x2)] [.inl (1 : Int32)] (by decide +kernel) rfl ?_
    exact s_bret (Or.inr rfl) (by decide +kernel) rfl
  · skip
    refine s_run (b := [(.aload_n 0, 1), (.iload_n 1, 1), (.aload_n 0, 1), (.iload_n 2, 1), (.iconst 0, 1)]) 15 [some (.inr (.inr x0)), some (.inl x1), some (.inl x2)] [.inl (0 : Int32), .inl x2, .inr (.inr x0), .inl x1, .inr (.inr x0)] (by decide +kernel) rfl ?_
    refine s_cV (Z := Y_X12_ofCall) (c := 12) (vs := [.inl x2, .inl (0 : Int32)]) (st := [.inl x1, .inr (.inr x0)]) (rO := fun z => some (.inl z)) (mO := fun _ => M) zk_X12_ofCall zi_X12_ofCall q1566 rfl ⟨by decide, by decide⟩ ⟨rfl, rfl⟩ rfl rfl (Nat.le_of_ble_eq_true rfl) (by decide +kernel) (fun z hz => c_X12_ofCall hz) (fun v3 => ?_)
    change Sim l G Y_X12_mayHave lim _ _ 18 [some (.inr (.inr x0)), some (.inl x1), some (.inl x2)] [.inl v3, .inl x1, .inr (.inr x0)] M
    refine s_cV (Z := Y_X12_hears) (c := 12) (vs := [.inl x1, .inl v3]) (st := []) (rO := fun z => some (.inl z)) (mO := fun _ => M) zk_X12_hears zi_X12_hears q1609 rfl ⟨by decide, by decide⟩ ⟨rfl, rfl⟩ rfl rfl (Nat.le_of_ble_eq_true rfl) (by decide +kernel) (fun z hz => c_X12_hears hz) (fun v4 => ?_)
    change Sim l G Y_X12_mayHave lim _ _ 21 [some (.inr (.inr x0)), some (.inl x1), some (.inl x2)] [.inl v4] M
    refine s_if_eq (tgt := 28) (off := 7) (by decide +kernel) (by decide) (fun h5 => ?_) (fun h5 => ?_)
    · skip
      refine s_run (b := [(.iconst 0, 1)]) 29 [some (.inr (.inr x0)), some (.inl x1), some (.inl x2)] [.inl (0 : Int32)] (by decide +kernel) rfl ?_
      exact s_bret (Or.inl rfl) (by decide +kernel) rfl
    · skip
      refine s_run (b := [(.iconst 1, 1), (.goto 4, 3)]) 29 [some (.inr (.inr x0)), some (.inl x1), some (.inl x2)] [.inl (1 : Int32)] (by decide +kernel) rfl ?_
      exact s_bret (Or.inr rfl) (by decide +kernel) rfl
set_option maxRecDepth 20000 in
theorem c_X12_mayHave {l : Launch} {G : Gv} {M : Mem} {x0 : Nat} {x1 : Int32} {x2 : Int32} {z : Int32} (h : f_X12_mayHave M x0 x1 x2 = some z) : MetS l G Y_X12_mayHave [.inr (.inr x0), .inl x1, .inl x2] M (some (.int z)) M :=
  met_of (ls0 := [some (.inr (.inr x0)), some (.inl x1), some (.inl x2)]) (by decide) rfl (lv_in (m := 0) rfl) (sl_le (Nat.le_of_ble_eq_true rfl)) (by rw [h]; rfl) (Or.inl ⟨rfl, rfl⟩) (S_X12_mayHave M x0 x1 x2)
def f_X12_gives_B2 (M : Mem) (x0 : Nat) (x1 : Int32) : Option ((Int32 × Mem) ⊕ ((Mem))) :=
  (if (256 : Int32) ≤ x1 then
    some (.inr M)
  else
    (gR M 12 x0 41).bind fun v2 =>
    (gI M 12 x0 13).bind fun v3 =>
    (sI M 0 v2 (((256 : Int32) * v3) + x1) (0 : Int32)).bind fun M4 =>
    some (.inl ((x1 + (1 : Int32)), M4)))
def f_X12_gives_L2 (M : Mem) (x0 : Nat) (x1 : Int32) : Option ((Mem)) := iter (fun s : Int32 × Mem => f_X12_gives_B2 s.2 x0 s.1) 1048576 (x1, M)
set_option maxRecDepth 20000 in
theorem B_X12_gives_2 {l : Launch} {G : Gv} {lim : Nat × Nat} (M : Mem) (x0 : Nat) (x1 : Int32) (K : (Int32 × Mem) ⊕ ((Mem)) → Option (Option Value × Mem)) (kk1 : ∀ (s1 : Int32) (s_ : Mem), SimR l G Y_X12_gives lim (K (.inl (s1, s_))) 2 [some (.inr (.inr x0)), some (.inl s1), none, none, none, none] [] s_) (kk2_0 : ∀ (s_ : Mem), SimR l G Y_X12_gives lim (K (.inr s_)) 31 [some (.inr (.inr x0)), none, none, none, none, none] [] s_) : Sim l G Y_X12_gives lim (f_X12_gives_B2 M x0 x1) K 2 [some (.inr (.inr x0)), some (.inl x1), none, none, none, none] [] M := by
  unfold f_X12_gives_B2
  refine s_run (b := [(.iload_n 1, 1), (.sipush 256, 3)]) 6 [some (.inr (.inr x0)), some (.inl x1), none, none, none, none] [.inl (256 : Int32), .inl x1] (by decide +kernel) rfl ?_
  refine s_ic_ge (tgt := 31) (off := 25) (by decide +kernel) (by decide) (fun h1 => ?_) (fun h1 => ?_)
  · skip
    exact s_lsub (ls' := [some (.inr (.inr x0)), none, none, none, none, none]) ⟨rfl, trivial⟩ (kk2_0 M)
  · skip
    refine s_run (b := [(.aload_n 0, 1)]) 10 [some (.inr (.inr x0)), some (.inl x1), none, none, none, none] [.inr (.inr x0)] (by decide +kernel) rfl ?_
    refine s_gR fl_12_48 rfl (by decide +kernel) (fun v2 => ?_)
    refine s_run (b := [(.sipush 256, 3), (.aload_n 0, 1)]) 17 [some (.inr (.inr x0)), some (.inl x1), none, none, none, none] [.inr (.inr x0), .inl (256 : Int32), .inr (.inr v2)] (by decide +kernel) rfl ?_
    refine s_gI fl_12_165 rfl (by decide +kernel) (fun v3 => ?_)
    refine s_run (b := [(.imul, 1), (.iload_n 1, 1), (.iadd, 1), (.iconst 0, 1)]) 24 [some (.inr (.inr x0)), some (.inl x1), none, none, none, none] [.inl (0 : Int32), .inl (((256 : Int32) * v3) + x1), .inr (.inr v2)] (by decide +kernel) rfl ?_
    refine s_is (by decide +kernel) (fun M4 => ?_)
    refine s_run (b := [(.iinc 1 1, 3), (.goto (-26), 3)]) 2 [some (.inr (.inr x0)), some (.inl (x1 + (1 : Int32))), none, none, none, none] [] (by decide +kernel) rfl ?_
    exact s_lsub (ls' := [some (.inr (.inr x0)), some (.inl (x1 + (1 : Int32))), none, none, none, none]) ⟨rfl, ⟨rfl, trivial⟩⟩ (kk1 (x1 + (1 : Int32)) M4)
set_option maxRecDepth 20000 in
theorem L_X12_gives_2 {l : Launch} {G : Gv} {lim : Nat × Nat} (M : Mem) (x0 : Nat) (x1 : Int32) (K : ((Mem)) → Option (Option Value × Mem)) (kk2_0 : ∀ r : Mem, SimR l G Y_X12_gives lim (K r) 31 [some (.inr (.inr x0)), none, none, none, none, none] [] r) : Sim l G Y_X12_gives lim (f_X12_gives_L2 M x0 x1) K 2 [some (.inr (.inr x0)), some (.inl x1), none, none, none, none] [] M :=
  s_iter (f := fun s : Int32 × Mem => f_X12_gives_B2 s.2 x0 s.1) (hd := 2) (cl := fun s => [some (.inr (.inr x0)), some (.inl s.1), none, none, none, none]) (cm := fun s => s.2) (xp := fun _ => 31) (xl := fun r => [some (.inr (.inr x0)), none, none, none, none, none]) (xm := fun r => r) (fun s K h1 h2 => B_X12_gives_2 s.2 x0 s.1 K (fun a1 a_ => h1 (a1, a_)) (fun a_ => h2 a_)) 1048576 (x1, M) K kk2_0
def f_X12_gives_B71 (M : Mem) (x0 : Nat) (x1 : Int32) (x2 : Int32) (x3 : Int32) (x4 : Int32) : Option ((Int32 × Int32) ⊕ ((Int32))) :=
  (gI M 12 x0 12).bind fun v1 =>
  (if v1 ≤ x4 then
    some (.inr x3)
  else
    (f_X12_holds M x2 x4).bind fun v3 =>
    (if v3 = 0 then
      (ob M 12 x0).bind fun _ => (f_X12_mayHave M x0 x4 x1).bind fun v5 =>
      (if v5 = 0 then
        some (.inl (x3, (x4 + (1 : Int32))))
      else
        (ob M 12 x0).bind fun _ => (f_X12_ofCall M x0 x1 (1 : Int32)).bind fun v7 =>
        (gR M 12 x0 41).bind fun v8 =>
        (aI M 0 v8 ((((256 : Int32) * x1) + (256 : Int32)) + (x2 ||| ((1 : Int32) <<< (x4 &&& 31))))).bind fun v9 =>
        (if (v7 + v9) ≤ x3 then
          some (.inl (x3, (x4 + (1 : Int32))))
        else
          some (.inl ((v7 + v9), (x4 + (1 : Int32))))))
    else
      some (.inl (x3, (x4 + (1 : Int32))))))
def f_X12_gives_L71 (M : Mem) (x0 : Nat) (x1 : Int32) (x2 : Int32) (x3 : Int32) (x4 : Int32) : Option ((Int32)) := iter (fun s : Int32 × Int32 => f_X12_gives_B71 M x0 x1 x2 s.1 s.2) 1048576 (x3, x4)
set_option maxRecDepth 20000 in
theorem B_X12_gives_71 {l : Launch} {G : Gv} {lim : Nat × Nat} (M : Mem) (x0 : Nat) (x1 : Int32) (x2 : Int32) (x3 : Int32) (x4 : Int32) (K : (Int32 × Int32) ⊕ ((Int32)) → Option (Option Value × Mem)) (kk1 : ∀ (s3 : Int32) (s4 : Int32), SimR l G Y_X12_gives lim (K (.inl (s3, s4))) 71 [some (.inr (.inr x0)), some (.inl x1), some (.inl x2), some (.inl s3), some (.inl s4), none] [] M) (kk2_0 : ∀ (s3 : Int32), SimR l G Y_X12_gives lim (K (.inr s3)) 151 [some (.inr (.inr x0)), some (.inl x1), some (.inl x2), some (.inl s3), none, none] [] M) : Sim l G Y_X12_gives lim (f_X12_gives_B71 M x0 x1 x2 x3 x4) K 71 [some (.inr (.inr x0)), some (.inl x1), some (.inl x2), some (.inl x3), some (.inl x4), none] [] M := by
  unfold f_X12_gives_B71
  refine s_run (b := [(.iload 4, 2), (.aload_n 0, 1)]) 74 [some (.inr (.inr x0)), some (.inl x1), some (.inl x2), some (.inl x3), some (.inl x4), none] [.inr (.inr x0), .inl x4] (by decide +kernel) rfl ?_
  refine s_gI fl_12_162 rfl (by decide +kernel) (fun v1 => ?_)
  refine s_ic_ge (tgt := 151) (off := 74) (by decide +kernel) (by decide) (fun h2 => ?_) (fun h2 => ?_)
  · skip
    exact s_lsub (ls' := [some (.inr (.inr x0)), some (.inl x1), some (.inl x2), some (.inl x3), none, none]) ⟨rfl, ⟨rfl, ⟨rfl, ⟨rfl, trivial⟩⟩⟩⟩ (kk2_0 x3)
  · skip
    refine s_run (b := [(.iload_n 2, 1), (.iload 4, 2)]) 83 [some (.inr (.inr x0)), some (.inl x1), some (.inl x2), some (.inl x3), some (.inl x4), none] [.inl x4, .inl x2] (by decide +kernel) rfl ?_
    refine s_cS (Z := Y_X12_holds) (vs := [.inl x2, .inl x4]) (st := []) (rO := fun z => some (.inl z)) (mO := fun _ => M) zk_X12_holds q1599 q1598 ⟨by decide, by decide⟩ ⟨rfl, rfl⟩ rfl rfl (Nat.le_of_ble_eq_true rfl) (by decide +kernel) (fun z hz => c_X12_holds hz) (fun v3 => ?_)
    change Sim l G Y_X12_gives lim _ _ 86 [some (.inr (.inr x0)), some (.inl x1), some (.inl x2), some (.inl x3), some (.inl x4), none] [.inl v3] M
    refine s_if_ne (tgt := 145) (off := 59) (by decide +kernel) (by decide) (fun h4 => ?_) (fun h4 => ?_)
    · skip
      refine s_run (b := [(.aload_n 0, 1), (.iload 4, 2), (.iload_n 1, 1)]) 93 [some (.inr (.inr x0)), some (.inl x1), some (.inl x2), some (.inl x3), some (.inl x4), none] [.inl x1, .inl x4, .inr (.inr x0)] (by decide +kernel) rfl ?_
      refine s_cV (Z := Y_X12_mayHave) (c := 12) (vs := [.inl x4, .inl x1]) (st := []) (rO := fun z => some (.inl z)) (mO := fun _ => M) zk_X12_mayHave zi_X12_mayHave q1858 rfl ⟨by decide, by decide⟩ ⟨rfl, rfl⟩ rfl rfl (Nat.le_of_ble_eq_true rfl) (by decide +kernel) (fun z hz => c_X12_mayHave hz) (fun v5 => ?_)
      change Sim l G Y_X12_gives lim _ _ 96 [some (.inr (.inr x0)), some (.inl x1), some (.inl x2), some (.inl x3), some (.inl x4), none] [.inl v5] M
      refine s_if_ne (tgt := 102) (off := 6) (by decide +kernel) (by decide) (fun h6 => ?_) (fun h6 => ?_)
      · skip
        refine s_run (b := [(.goto 46, 3), (.iinc 4 1, 3), (.goto (-77), 3)]) 71 [some (.inr (.inr x0)), some (.inl x1), some (.inl x2), some (.inl x3), some (.inl (x4 + (1 : Int32))), none] [] (by decide +kernel) rfl ?_
        exact s_lsub (ls' := [some (.inr (.inr x0)), some (.inl x1), some (.inl x2), some (.inl x3), some (.inl (x4 + (1 : Int32))), none]) ⟨rfl, ⟨rfl, ⟨rfl, ⟨rfl, ⟨rfl, trivial⟩⟩⟩⟩⟩ (kk1 x3 (x4 + (1 : Int32)))
      · skip
        refine s_run (b := [(.aload_n 0, 1), (.iload_n 1, 1), (.iconst 1, 1)]) 105 [some (.inr (.inr x0)), some (.inl x1), some (.inl x2), some (.inl x3), some (.inl x4), none] [.inl (1 : Int32), .inl x1, .inr (.inr x0)] (by decide +kernel) rfl ?_
        refine s_cV (Z := Y_X12_ofCall) (c := 12) (vs := [.inl x1, .inl (1 : Int32)]) (st := []) (rO := fun z => some (.inl z)) (mO := fun _ => M) zk_X12_ofCall zi_X12_ofCall q1566 rfl ⟨by decide, by decide⟩ ⟨rfl, rfl⟩ rfl rfl (Nat.le_of_ble_eq_true rfl) (by decide +kernel) (fun z hz => c_X12_ofCall hz) (fun v7 => ?_)
        change Sim l G Y_X12_gives lim _ _ 108 [some (.inr (.inr x0)), some (.inl x1), some (.inl x2), some (.inl x3), some (.inl x4), none] [.inl v7] M
        refine s_run (b := [(.aload_n 0, 1)]) 109 [some (.inr (.inr x0)), some (.inl x1), some (.inl x2), some (.inl x3), some (.inl x4), none] [.inr (.inr x0), .inl v7] (by decide +kernel) rfl ?_
        refine s_gR fl_12_48 rfl (by decide +kernel) (fun v8 => ?_)
        refine s_run (b := [(.sipush 256, 3), (.iload_n 1, 1), (.imul, 1), (.sipush 256, 3), (.iadd, 1), (.iload_n 2, 1), (.iconst 1, 1), (.iload 4, 2), (.ishl, 1), (.ior, 1), (.iadd, 1)]) 128 [some (.inr (.inr x0)), some (.inl x1), some (.inl x2), some (.inl x3), some (.inl x4), none] [.inl ((((256 : Int32) * x1) + (256 : Int32)) + (x2 ||| ((1 : Int32) <<< (x4 &&& 31)))), .inr (.inr v8), .inl v7] (by decide +kernel) rfl ?_
        refine s_ia (by decide +kernel) (fun v9 => ?_)
        refine s_run (b := [(.iadd, 1), (.istore 5, 2), (.iload 5, 2), (.iload_n 3, 1)]) 135 [some (.inr (.inr x0)), some (.inl x1), some (.inl x2), some (.inl x3), some (.inl x4), some (.inl (v7 + v9))] [.inl x3, .inl (v7 + v9)] (by decide +kernel) rfl ?_
        refine s_ic_le (tgt := 143) (off := 8) (by decide +kernel) (by decide) (fun h10 => ?_) (fun h10 => ?_)
        · skip
          refine s_run (b := [(.iload_n 3, 1), (.istore_n 3, 1), (.iinc 4 1, 3), (.goto (-77), 3)]) 71 [some (.inr (.inr x0)), some (.inl x1), some (.inl x2), some (.inl x3), some (.inl (x4 + (1 : Int32))), some (.inl (v7 + v9))] [] (by decide +kernel) rfl ?_
          exact s_lsub (ls' := [some (.inr (.inr x0)), some (.inl x1), some (.inl x2), some (.inl x3), some (.inl (x4 + (1 : Int32))), none]) ⟨rfl, ⟨rfl, ⟨rfl, ⟨rfl, ⟨rfl, trivial⟩⟩⟩⟩⟩ (kk1 x3 (x4 + (1 : Int32)))
        · skip
          refine s_run (b := [(.iload 5, 2), (.goto 4, 3), (.istore_n 3, 1), (.iinc 4 1, 3), (.goto (-77), 3)]) 71 [some (.inr (.inr x0)), some (.inl x1), some (.inl x2), some (.inl (v7 + v9)), some (.inl (x4 + (1 : Int32))), some (.inl (v7 + v9))] [] (by decide +kernel) rfl ?_
          exact s_lsub (ls' := [some (.inr (.inr x0)), some (.inl x1), some (.inl x2), some (.inl (v7 + v9)), some (.inl (x4 + (1 : Int32))), none]) ⟨rfl, ⟨rfl, ⟨rfl, ⟨rfl, ⟨rfl, trivial⟩⟩⟩⟩⟩ (kk1 (v7 + v9) (x4 + (1 : Int32)))
    · skip
      refine s_run (b := [(.iinc 4 1, 3), (.goto (-77), 3)]) 71 [some (.inr (.inr x0)), some (.inl x1), some (.inl x2), some (.inl x3), some (.inl (x4 + (1 : Int32))), none] [] (by decide +kernel) rfl ?_
      exact s_lsub (ls' := [some (.inr (.inr x0)), some (.inl x1), some (.inl x2), some (.inl x3), some (.inl (x4 + (1 : Int32))), none]) ⟨rfl, ⟨rfl, ⟨rfl, ⟨rfl, ⟨rfl, trivial⟩⟩⟩⟩⟩ (kk1 x3 (x4 + (1 : Int32)))
set_option maxRecDepth 20000 in
theorem L_X12_gives_71 {l : Launch} {G : Gv} {lim : Nat × Nat} (M : Mem) (x0 : Nat) (x1 : Int32) (x2 : Int32) (x3 : Int32) (x4 : Int32) (K : ((Int32)) → Option (Option Value × Mem)) (kk2_0 : ∀ r : Int32, SimR l G Y_X12_gives lim (K r) 151 [some (.inr (.inr x0)), some (.inl x1), some (.inl x2), some (.inl r), none, none] [] M) : Sim l G Y_X12_gives lim (f_X12_gives_L71 M x0 x1 x2 x3 x4) K 71 [some (.inr (.inr x0)), some (.inl x1), some (.inl x2), some (.inl x3), some (.inl x4), none] [] M :=
  s_iter (f := fun s : Int32 × Int32 => f_X12_gives_B71 M x0 x1 x2 s.1 s.2) (hd := 71) (cl := fun s => [some (.inr (.inr x0)), some (.inl x1), some (.inl x2), some (.inl s.1), some (.inl s.2), none]) (cm := fun s => M) (xp := fun _ => 151) (xl := fun r => [some (.inr (.inr x0)), some (.inl x1), some (.inl x2), some (.inl r), none, none]) (xm := fun r => M) (fun s K h1 h2 => B_X12_gives_71 M x0 x1 x2 s.1 s.2 K (fun a3 a4 => h1 (a3, a4)) (fun a3 => h2 a3)) 1048576 (x3, x4) K kk2_0
def f_X12_gives_B44 (M : Mem) (x0 : Nat) (x1 : Int32) (x2 : Int32) : Option ((Int32 × Mem) ⊕ ((Mem))) :=
  (if (256 : Int32) ≤ x2 then
    some (.inr M)
  else
    (gR M 12 x0 41).bind fun v2 =>
    (aI M 0 v2 ((((256 : Int32) * x1) + (256 : Int32)) + x2)).bind fun v3 =>
    (f_X12_gives_L71 M x0 x1 x2 v3 (0 : Int32)).bind fun r4 =>
    (gR M 12 x0 41).bind fun v5 =>
    (sI M 0 v5 (((256 : Int32) * x1) + x2) r4).bind fun M6 =>
    some (.inl ((x2 + (1 : Int32)), M6)))
def f_X12_gives_L44 (M : Mem) (x0 : Nat) (x1 : Int32) (x2 : Int32) : Option ((Mem)) := iter (fun s : Int32 × Mem => f_X12_gives_B44 s.2 x0 x1 s.1) 1048576 (x2, M)
set_option maxRecDepth 20000 in
theorem B_X12_gives_44 {l : Launch} {G : Gv} {lim : Nat × Nat} (M : Mem) (x0 : Nat) (x1 : Int32) (x2 : Int32) (K : (Int32 × Mem) ⊕ ((Mem)) → Option (Option Value × Mem)) (kk1 : ∀ (s2 : Int32) (s_ : Mem), SimR l G Y_X12_gives lim (K (.inl (s2, s_))) 44 [some (.inr (.inr x0)), some (.inl x1), some (.inl s2), none, none, none] [] s_) (kk2_0 : ∀ (s_ : Mem), SimR l G Y_X12_gives lim (K (.inr s_)) 170 [some (.inr (.inr x0)), some (.inl x1), none, none, none, none] [] s_) : Sim l G Y_X12_gives lim (f_X12_gives_B44 M x0 x1 x2) K 44 [some (.inr (.inr x0)), some (.inl x1), some (.inl x2), none, none, none] [] M := by
  unfold f_X12_gives_B44
  refine s_run (b := [(.iload_n 2, 1), (.sipush 256, 3)]) 48 [some (.inr (.inr x0)), some (.inl x1), some (.inl x2), none, none, none] [.inl (256 : Int32), .inl x2] (by decide +kernel) rfl ?_
  refine s_ic_ge (tgt := 170) (off := 122) (by decide +kernel) (by decide) (fun h1 => ?_) (fun h1 => ?_)
  · skip
    exact s_lsub (ls' := [some (.inr (.inr x0)), some (.inl x1), none, none, none, none]) ⟨rfl, ⟨rfl, trivial⟩⟩ (kk2_0 M)
  · skip
    refine s_run (b := [(.aload_n 0, 1)]) 52 [some (.inr (.inr x0)), some (.inl x1), some (.inl x2), none, none, none] [.inr (.inr x0)] (by decide +kernel) rfl ?_
    refine s_gR fl_12_48 rfl (by decide +kernel) (fun v2 => ?_)
    refine s_run (b := [(.sipush 256, 3), (.iload_n 1, 1), (.imul, 1), (.sipush 256, 3), (.iadd, 1), (.iload_n 2, 1), (.iadd, 1)]) 66 [some (.inr (.inr x0)), some (.inl x1), some (.inl x2), none, none, none] [.inl ((((256 : Int32) * x1) + (256 : Int32)) + x2), .inr (.inr v2)] (by decide +kernel) rfl ?_
    refine s_ia (by decide +kernel) (fun v3 => ?_)
    refine s_run (b := [(.istore_n 3, 1), (.iconst 0, 1), (.istore 4, 2)]) 71 [some (.inr (.inr x0)), some (.inl x1), some (.inl x2), some (.inl v3), some (.inl (0 : Int32)), none] [] (by decide +kernel) rfl ?_
    refine s_lsub (ls' := [some (.inr (.inr x0)), some (.inl x1), some (.inl x2), some (.inl v3), some (.inl (0 : Int32)), none]) ⟨rfl, ⟨rfl, ⟨rfl, ⟨rfl, ⟨rfl, trivial⟩⟩⟩⟩⟩ ?_
    refine sim_bind (L_X12_gives_71 M x0 x1 x2 v3 (0 : Int32) _ (fun r4 => ?_))
    change Sim l G Y_X12_gives lim _ _ 151 [some (.inr (.inr x0)), some (.inl x1), some (.inl x2), some (.inl r4), none, none] [] M
    refine s_run (b := [(.aload_n 0, 1)]) 152 [some (.inr (.inr x0)), some (.inl x1), some (.inl x2), some (.inl r4), none, none] [.inr (.inr x0)] (by decide +kernel) rfl ?_
    refine s_gR fl_12_48 rfl (by decide +kernel) (fun v5 => ?_)
    refine s_run (b := [(.sipush 256, 3), (.iload_n 1, 1), (.imul, 1), (.iload_n 2, 1), (.iadd, 1), (.iload_n 3, 1)]) 163 [some (.inr (.inr x0)), some (.inl x1), some (.inl x2), some (.inl r4), none, none] [.inl r4, .inl (((256 : Int32) * x1) + x2), .inr (.inr v5)] (by decide +kernel) rfl ?_
    refine s_is (by decide +kernel) (fun M6 => ?_)
    refine s_run (b := [(.iinc 2 1, 3), (.goto (-123), 3)]) 44 [some (.inr (.inr x0)), some (.inl x1), some (.inl (x2 + (1 : Int32))), some (.inl r4), none, none] [] (by decide +kernel) rfl ?_
    exact s_lsub (ls' := [some (.inr (.inr x0)), some (.inl x1), some (.inl (x2 + (1 : Int32))), none, none, none]) ⟨rfl, ⟨rfl, ⟨rfl, trivial⟩⟩⟩ (kk1 (x2 + (1 : Int32)) M6)
set_option maxRecDepth 20000 in
theorem L_X12_gives_44 {l : Launch} {G : Gv} {lim : Nat × Nat} (M : Mem) (x0 : Nat) (x1 : Int32) (x2 : Int32) (K : ((Mem)) → Option (Option Value × Mem)) (kk2_0 : ∀ r : Mem, SimR l G Y_X12_gives lim (K r) 170 [some (.inr (.inr x0)), some (.inl x1), none, none, none, none] [] r) : Sim l G Y_X12_gives lim (f_X12_gives_L44 M x0 x1 x2) K 44 [some (.inr (.inr x0)), some (.inl x1), some (.inl x2), none, none, none] [] M :=
  s_iter (f := fun s : Int32 × Mem => f_X12_gives_B44 s.2 x0 x1 s.1) (hd := 44) (cl := fun s => [some (.inr (.inr x0)), some (.inl x1), some (.inl s.1), none, none, none]) (cm := fun s => s.2) (xp := fun _ => 170) (xl := fun r => [some (.inr (.inr x0)), some (.inl x1), none, none, none, none]) (xm := fun r => r) (fun s K h1 h2 => B_X12_gives_44 s.2 x0 x1 s.1 K (fun a2 a_ => h1 (a2, a_)) (fun a_ => h2 a_)) 1048576 (x2, M) K kk2_0
def f_X12_gives_B38 (M : Mem) (x0 : Nat) (x1 : Int32) : Option ((Int32 × Mem) ⊕ ((Mem))) :=
  (if x1 < 0 then
    some (.inr M)
  else
    (f_X12_gives_L44 M x0 x1 (0 : Int32)).bind fun r2 =>
    some (.inl ((x1 + Int32.ofInt (-1)), r2)))
def f_X12_gives_L38 (M : Mem) (x0 : Nat) (x1 : Int32) : Option ((Mem)) := iter (fun s : Int32 × Mem => f_X12_gives_B38 s.2 x0 s.1) 1048576 (x1, M)
set_option maxRecDepth 20000 in
theorem B_X12_gives_38 {l : Launch} {G : Gv} {lim : Nat × Nat} (M : Mem) (x0 : Nat) (x1 : Int32) (K : (Int32 × Mem) ⊕ ((Mem)) → Option (Option Value × Mem)) (kk1 : ∀ (s1 : Int32) (s_ : Mem), SimR l G Y_X12_gives lim (K (.inl (s1, s_))) 38 [some (.inr (.inr x0)), some (.inl s1), none, none, none, none] [] s_) (kk2_0 : ∀ (s_ : Mem), SimR l G Y_X12_gives lim (K (.inr s_)) 176 [none, none, none, none, none, none] [] s_) : Sim l G Y_X12_gives lim (f_X12_gives_B38 M x0 x1) K 38 [some (.inr (.inr x0)), some (.inl x1), none, none, none, none] [] M := by
  unfold f_X12_gives_B38
  refine s_run (b := [(.iload_n 1, 1)]) 39 [some (.inr (.inr x0)), some (.inl x1), none, none, none, none] [.inl x1] (by decide +kernel) rfl ?_
  refine s_if_lt (tgt := 176) (off := 137) (by decide +kernel) (by decide) (fun h1 => ?_) (fun h1 => ?_)
  · skip
    exact s_lsub (ls' := [none, none, none, none, none, none]) trivial (kk2_0 M)
  · skip
    refine s_run (b := [(.iconst 0, 1), (.istore_n 2, 1)]) 44 [some (.inr (.inr x0)), some (.inl x1), some (.inl (0 : Int32)), none, none, none] [] (by decide +kernel) rfl ?_
    refine s_lsub (ls' := [some (.inr (.inr x0)), some (.inl x1), some (.inl (0 : Int32)), none, none, none]) ⟨rfl, ⟨rfl, ⟨rfl, trivial⟩⟩⟩ ?_
    refine sim_bind (L_X12_gives_44 M x0 x1 (0 : Int32) _ (fun r2 => ?_))
    change Sim l G Y_X12_gives lim _ _ 170 [some (.inr (.inr x0)), some (.inl x1), none, none, none, none] [] r2
    refine s_run (b := [(.iinc 1 (-1), 3), (.goto (-135), 3)]) 38 [some (.inr (.inr x0)), some (.inl (x1 + Int32.ofInt (-1))), none, none, none, none] [] (by decide +kernel) rfl ?_
    exact s_lsub (ls' := [some (.inr (.inr x0)), some (.inl (x1 + Int32.ofInt (-1))), none, none, none, none]) ⟨rfl, ⟨rfl, trivial⟩⟩ (kk1 (x1 + Int32.ofInt (-1)) r2)
set_option maxRecDepth 20000 in
theorem L_X12_gives_38 {l : Launch} {G : Gv} {lim : Nat × Nat} (M : Mem) (x0 : Nat) (x1 : Int32) (K : ((Mem)) → Option (Option Value × Mem)) (kk2_0 : ∀ r : Mem, SimR l G Y_X12_gives lim (K r) 176 [none, none, none, none, none, none] [] r) : Sim l G Y_X12_gives lim (f_X12_gives_L38 M x0 x1) K 38 [some (.inr (.inr x0)), some (.inl x1), none, none, none, none] [] M :=
  s_iter (f := fun s : Int32 × Mem => f_X12_gives_B38 s.2 x0 s.1) (hd := 38) (cl := fun s => [some (.inr (.inr x0)), some (.inl s.1), none, none, none, none]) (cm := fun s => s.2) (xp := fun _ => 176) (xl := fun r => [none, none, none, none, none, none]) (xm := fun r => r) (fun s K h1 h2 => B_X12_gives_38 s.2 x0 s.1 K (fun a1 a_ => h1 (a1, a_)) (fun a_ => h2 a_)) 1048576 (x1, M) K kk2_0
def f_X12_gives (M : Mem) (x0 : Nat) : Option (Mem) :=
  (f_X12_gives_L2 M x0 (0 : Int32)).bind fun r1 =>
  (gI r1 12 x0 13).bind fun v2 =>
  (f_X12_gives_L38 r1 x0 (v2 - (1 : Int32))).bind fun r3 =>
  some r3
set_option maxRecDepth 20000 in
theorem S_X12_gives {l : Launch} {G : Gv} {lim : Nat × Nat} (M : Mem) (x0 : Nat) : Sim l G Y_X12_gives lim (f_X12_gives M x0) (fun z => some (none, z)) 0 [some (.inr (.inr x0)), none, none, none, none, none] [] M := by
  unfold f_X12_gives
  refine s_run (b := [(.iconst 0, 1), (.istore_n 1, 1)]) 2 [some (.inr (.inr x0)), some (.inl (0 : Int32)), none, none, none, none] [] (by decide +kernel) rfl ?_
  refine s_lsub (ls' := [some (.inr (.inr x0)), some (.inl (0 : Int32)), none, none, none, none]) ⟨rfl, ⟨rfl, trivial⟩⟩ ?_
  refine sim_bind (L_X12_gives_2 M x0 (0 : Int32) _ (fun r1 => ?_))
  change Sim l G Y_X12_gives lim _ _ 31 [some (.inr (.inr x0)), none, none, none, none, none] [] r1
  refine s_run (b := [(.aload_n 0, 1)]) 32 [some (.inr (.inr x0)), none, none, none, none, none] [.inr (.inr x0)] (by decide +kernel) rfl ?_
  refine s_gI fl_12_165 rfl (by decide +kernel) (fun v2 => ?_)
  refine s_run (b := [(.iconst 1, 1), (.isub, 1), (.istore_n 1, 1)]) 38 [some (.inr (.inr x0)), some (.inl (v2 - (1 : Int32))), none, none, none, none] [] (by decide +kernel) rfl ?_
  refine s_lsub (ls' := [some (.inr (.inr x0)), some (.inl (v2 - (1 : Int32))), none, none, none, none]) ⟨rfl, ⟨rfl, trivial⟩⟩ ?_
  refine sim_bind (L_X12_gives_38 r1 x0 (v2 - (1 : Int32)) _ (fun r3 => ?_))
  change Sim l G Y_X12_gives lim _ _ 176 [none, none, none, none, none, none] [] r3
  exact s_vret (by decide +kernel) rfl
set_option maxRecDepth 20000 in
theorem c_X12_gives {l : Launch} {G : Gv} {M : Mem} {x0 : Nat} {z : Mem} (h : f_X12_gives M x0 = some z) : MetS l G Y_X12_gives [.inr (.inr x0)] M none z :=
  met_of (ls0 := [some (.inr (.inr x0)), none, none, none, none, none]) (by decide) rfl (lv_in (m := 5) rfl) (sl_le (Nat.le_of_ble_eq_true rfl)) (by rw [h]; rfl) (Or.inl ⟨rfl, rfl⟩) (S_X12_gives M x0)
