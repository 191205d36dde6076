def f_X12_advance_J26 (M : Mem) (x0 : Nat)  : Option ((Mem) ⊕ ((Mem))) :=
  (gI M 12 x0 3).bind fun v1 =>
  (pI M 12 x0 3 (v1 + (1 : Int32))).bind fun M2 =>
  some (.inl M2)
set_option maxRecDepth 20000 in
theorem J_X12_advance_26 {l : Launch} {G : Gv} {lim : Nat × Nat} (M : Mem) (x0 : Nat)  (K : (Mem) ⊕ ((Mem)) → Option (Option Value × Mem)) (kk1 : ∀ (s_ : Mem), SimR l G Y_X12_advance lim (K (.inl s_)) 0 [some (.inr (.inr x0)), none, none, none] [] s_) (kk2_0 : ∀ (s_ : Mem), SimR l G Y_X12_advance lim (K (.inr s_)) 39 [some (.inr (.inr x0)), none, none, none] [] s_) : Sim l G Y_X12_advance lim (f_X12_advance_J26 M x0) K 26 [some (.inr (.inr x0)), none, none, none] [] M := by
  unfold f_X12_advance_J26
  refine s_run (b := [(.aload_n 0, 1), (.dup, 1)]) 28 [some (.inr (.inr x0)), none, none, none] [.inr (.inr x0), .inr (.inr x0)] (by decide +kernel) rfl ?_
  refine s_gI fl_12_68 rfl (by decide +kernel) (fun v1 => ?_)
  refine s_run (b := [(.iconst 1, 1), (.iadd, 1)]) 33 [some (.inr (.inr x0)), none, none, none] [.inl (v1 + (1 : Int32)), .inr (.inr x0)] (by decide +kernel) rfl ?_
  refine s_pI fl_12_68 (Or.inl rfl) rfl (by decide +kernel) (fun M2 => ?_)
  refine s_run (b := [(.goto (-36), 3)]) 0 [some (.inr (.inr x0)), none, none, none] [] (by decide +kernel) rfl ?_
  exact s_lsub (ls' := [some (.inr (.inr x0)), none, none, none]) ⟨rfl, trivial⟩ (kk1 M2)
def f_X12_advance_B0 (M : Mem) (x0 : Nat)  : Option ((Mem) ⊕ ((Mem))) :=
  (gI M 12 x0 3).bind fun v1 =>
  (ob M 12 x0).bind fun _ => (f_X12_byteAt M x0 v1).bind fun v2 =>
  (if v2 = (10 : Int32) then
    f_X12_advance_J26 M x0 
  else
    (gI M 12 x0 3).bind fun v4 =>
    (ob M 12 x0).bind fun _ => (f_X12_byteAt M x0 v4).bind fun v5 =>
    (if v5 = (32 : Int32) then
      f_X12_advance_J26 M x0 
    else
      some (.inr M)))
def f_X12_advance_L0 (M : Mem) (x0 : Nat)  : Option ((Mem)) := iter (fun s : Mem => f_X12_advance_B0 s x0 ) 1048576 M
set_option maxRecDepth 20000 in
theorem B_X12_advance_0 {l : Launch} {G : Gv} {lim : Nat × Nat} (M : Mem) (x0 : Nat)  (K : (Mem) ⊕ ((Mem)) → Option (Option Value × Mem)) (kk1 : ∀ (s_ : Mem), SimR l G Y_X12_advance lim (K (.inl s_)) 0 [some (.inr (.inr x0)), none, none, none] [] s_) (kk2_0 : ∀ (s_ : Mem), SimR l G Y_X12_advance lim (K (.inr s_)) 39 [some (.inr (.inr x0)), none, none, none] [] s_) : Sim l G Y_X12_advance lim (f_X12_advance_B0 M x0 ) K 0 [some (.inr (.inr x0)), none, none, none] [] M := by
  unfold f_X12_advance_B0
  refine s_run (b := [(.aload_n 0, 1), (.aload_n 0, 1)]) 2 [some (.inr (.inr x0)), none, none, none] [.inr (.inr x0), .inr (.inr x0)] (by decide +kernel) rfl ?_
  refine s_gI fl_12_68 rfl (by decide +kernel) (fun v1 => ?_)
  refine s_cV (Z := Y_X12_byteAt) (c := 12) (vs := [.inl v1]) (st := []) (rO := fun z => some (.inl z)) (mO := fun _ => M) zk_X12_byteAt zi_X12_byteAt q1474 rfl ⟨by decide, by decide⟩ ⟨rfl, rfl⟩ rfl rfl (Nat.le_of_ble_eq_true rfl) (by decide +kernel) (fun z hz => c_X12_byteAt hz) (fun v2 => ?_)
  change Sim l G Y_X12_advance lim _ _ 8 [some (.inr (.inr x0)), none, none, none] [.inl v2] M
  refine s_run (b := [(.bipush 10, 2)]) 10 [some (.inr (.inr x0)), none, none, none] [.inl (10 : Int32), .inl v2] (by decide +kernel) rfl ?_
  refine s_ic_eq (tgt := 26) (off := 16) (by decide +kernel) (by decide) (fun h3 => ?_) (fun h3 => ?_)
  · skip
    exact s_lsub (ls' := [some (.inr (.inr x0)), none, none, none]) ⟨rfl, trivial⟩ (J_X12_advance_26 M x0  K kk1 kk2_0)
  · skip
    refine s_run (b := [(.aload_n 0, 1), (.aload_n 0, 1)]) 15 [some (.inr (.inr x0)), none, none, none] [.inr (.inr x0), .inr (.inr x0)] (by decide +kernel) rfl ?_
    refine s_gI fl_12_68 rfl (by decide +kernel) (fun v4 => ?_)
    refine s_cV (Z := Y_X12_byteAt) (c := 12) (vs := [.inl v4]) (st := []) (rO := fun z => some (.inl z)) (mO := fun _ => M) zk_X12_byteAt zi_X12_byteAt q1474 rfl ⟨by decide, by decide⟩ ⟨rfl, rfl⟩ rfl rfl (Nat.le_of_ble_eq_true rfl) (by decide +kernel) (fun z hz => c_X12_byteAt hz) (fun v5 => ?_)
    change Sim l G Y_X12_advance lim _ _ 21 [some (.inr (.inr x0)), none, none, none] [.inl v5] M
    refine s_run (b := [(.bipush 32, 2)]) 23 [some (.inr (.inr x0)), none, none, none] [.inl (32 : Int32), .inl v5] (by decide +kernel) rfl ?_
    refine s_ic_ne (tgt := 39) (off := 16) (by decide +kernel) (by decide) (fun h6 => ?_) (fun h6 => ?_)
    · skip
      exact s_lsub (ls' := [some (.inr (.inr x0)), none, none, none]) ⟨rfl, trivial⟩ (J_X12_advance_26 M x0  K kk1 kk2_0)
    · skip
      exact s_lsub (ls' := [some (.inr (.inr x0)), none, none, none]) ⟨rfl, trivial⟩ (kk2_0 M)
set_option maxRecDepth 20000 in
theorem L_X12_advance_0 {l : Launch} {G : Gv} {lim : Nat × Nat} (M : Mem) (x0 : Nat)  (K : ((Mem)) → Option (Option Value × Mem)) (kk2_0 : ∀ r : Mem, SimR l G Y_X12_advance lim (K r) 39 [some (.inr (.inr x0)), none, none, none] [] r) : Sim l G Y_X12_advance lim (f_X12_advance_L0 M x0 ) K 0 [some (.inr (.inr x0)), none, none, none] [] M :=
  s_iter (f := fun s : Mem => f_X12_advance_B0 s x0 ) (hd := 0) (cl := fun s => [some (.inr (.inr x0)), none, none, none]) (cm := fun s => s) (xp := fun _ => 39) (xl := fun r => [some (.inr (.inr x0)), none, none, none]) (xm := fun r => r) (fun s K h1 h2 => B_X12_advance_0 s x0  K (fun a_ => h1 a_) (fun a_ => h2 a_)) 1048576 M K kk2_0
def f_X12_advance_J308 (M : Mem)  (y0 : Nat) (y1 : Int32) : Option (Mem) :=
  (pI M 12 y0 5 y1).bind fun M1 =>
  some M1
set_option maxRecDepth 20000 in
theorem J_X12_advance_308 {l : Launch} {G : Gv} {lim : Nat × Nat} (M : Mem)  (y0 : Nat) (y1 : Int32)  : Sim l G Y_X12_advance lim (f_X12_advance_J308 M y0 y1) (fun z => some (none, z)) 308 [none, none, none, none] [.inl y1, .inr (.inr y0)] M := by
  unfold f_X12_advance_J308
  refine s_pI fl_12_78 (Or.inl rfl) rfl (by decide +kernel) (fun M1 => ?_)
  exact s_vret (by decide +kernel) rfl
def f_X12_advance_J248 (M : Mem) (x0 : Nat)  : Option ((Mem) ⊕ ((Mem))) :=
  (gI M 12 x0 3).bind fun v1 =>
  (pI M 12 x0 3 (v1 + (1 : Int32))).bind fun M2 =>
  some (.inl M2)
set_option maxRecDepth 20000 in
theorem J_X12_advance_248 {l : Launch} {G : Gv} {lim : Nat × Nat} (M : Mem) (x0 : Nat)  (K : (Mem) ⊕ ((Mem)) → Option (Option Value × Mem)) (kk1 : ∀ (s_ : Mem), SimR l G Y_X12_advance lim (K (.inl s_)) 198 [some (.inr (.inr x0)), none, none, none] [] s_) (kk2_0 : ∀ (s_ : Mem), SimR l G Y_X12_advance lim (K (.inr s_)) 261 [some (.inr (.inr x0)), none, none, none] [] s_) : Sim l G Y_X12_advance lim (f_X12_advance_J248 M x0) K 248 [some (.inr (.inr x0)), none, none, none] [] M := by
  unfold f_X12_advance_J248
  refine s_run (b := [(.aload_n 0, 1), (.dup, 1)]) 250 [some (.inr (.inr x0)), none, none, none] [.inr (.inr x0), .inr (.inr x0)] (by decide +kernel) rfl ?_
  refine s_gI fl_12_68 rfl (by decide +kernel) (fun v1 => ?_)
  refine s_run (b := [(.iconst 1, 1), (.iadd, 1)]) 255 [some (.inr (.inr x0)), none, none, none] [.inl (v1 + (1 : Int32)), .inr (.inr x0)] (by decide +kernel) rfl ?_
  refine s_pI fl_12_68 (Or.inl rfl) rfl (by decide +kernel) (fun M2 => ?_)
  refine s_run (b := [(.goto (-60), 3)]) 198 [some (.inr (.inr x0)), none, none, none] [] (by decide +kernel) rfl ?_
  exact s_lsub (ls' := [some (.inr (.inr x0)), none, none, none]) ⟨rfl, trivial⟩ (kk1 M2)
def f_X12_advance_B198 (M : Mem) (x0 : Nat)  : Option ((Mem) ⊕ ((Mem))) :=
  (gI M 12 x0 3).bind fun v1 =>
  (ob M 12 x0).bind fun _ => (f_X12_byteAt M x0 v1).bind fun v2 =>
  (f_X12_isDigit M v2).bind fun v3 =>
  (if v3 = 0 then
    some (.inr M)
  else
    (gI M 12 x0 3).bind fun v5 =>
    (gI M 12 x0 4).bind fun v6 =>
    (if (2 : Int32) ≤ (v5 - v6) then
      f_X12_advance_J248 M x0 
    else
      (gI M 12 x0 6).bind fun v8 =>
      (gI M 12 x0 3).bind fun v9 =>
      (ob M 12 x0).bind fun _ => (f_X12_byteAt M x0 v9).bind fun v10 =>
      (pI M 12 x0 6 ((((10 : Int32) * v8) + v10) - (48 : Int32))).bind fun M11 =>
      f_X12_advance_J248 M11 x0 ))
def f_X12_advance_L198 (M : Mem) (x0 : Nat)  : Option ((Mem)) := iter (fun s : Mem => f_X12_advance_B198 s x0 ) 1048576 M
set_option maxRecDepth 20000 in
theorem B_X12_advance_198 {l : Launch} {G : Gv} {lim : Nat × Nat} (M : Mem) (x0 : Nat)  (K : (Mem) ⊕ ((Mem)) → Option (Option Value × Mem)) (kk1 : ∀ (s_ : Mem), SimR l G Y_X12_advance lim (K (.inl s_)) 198 [some (.inr (.inr x0)), none, none, none] [] s_) (kk2_0 : ∀ (s_ : Mem), SimR l G Y_X12_advance lim (K (.inr s_)) 261 [some (.inr (.inr x0)), none, none, none] [] s_) : Sim l G Y_X12_advance lim (f_X12_advance_B198 M x0 ) K 198 [some (.inr (.inr x0)), none, none, none] [] M := by
  unfold f_X12_advance_B198
  refine s_run (b := [(.aload_n 0, 1), (.aload_n 0, 1)]) 200 [some (.inr (.inr x0)), none, none, none] [.inr (.inr x0), .inr (.inr x0)] (by decide +kernel) rfl ?_
  refine s_gI fl_12_68 rfl (by decide +kernel) (fun v1 => ?_)
  refine s_cV (Z := Y_X12_byteAt) (c := 12) (vs := [.inl v1]) (st := []) (rO := fun z => some (.inl z)) (mO := fun _ => M) zk_X12_byteAt zi_X12_byteAt q1474 rfl ⟨by decide, by decide⟩ ⟨rfl, rfl⟩ rfl rfl (Nat.le_of_ble_eq_true rfl) (by decide +kernel) (fun z hz => c_X12_byteAt hz) (fun v2 => ?_)
  change Sim l G Y_X12_advance lim _ _ 206 [some (.inr (.inr x0)), none, none, none] [.inl v2] M
  refine s_cS (Z := Y_X12_isDigit) (vs := [.inl v2]) (st := []) (rO := fun z => some (.inl z)) (mO := fun _ => M) zk_X12_isDigit q1494 q1493 ⟨by decide, by decide⟩ ⟨rfl, rfl⟩ rfl rfl (Nat.le_of_ble_eq_true rfl) (by decide +kernel) (fun z hz => c_X12_isDigit hz) (fun v3 => ?_)
  change Sim l G Y_X12_advance lim _ _ 209 [some (.inr (.inr x0)), none, none, none] [.inl v3] M
  refine s_if_eq (tgt := 261) (off := 52) (by decide +kernel) (by decide) (fun h4 => ?_) (fun h4 => ?_)
  · skip
    exact s_lsub (ls' := [some (.inr (.inr x0)), none, none, none]) ⟨rfl, trivial⟩ (kk2_0 M)
  · skip
    refine s_run (b := [(.aload_n 0, 1)]) 213 [some (.inr (.inr x0)), none, none, none] [.inr (.inr x0)] (by decide +kernel) rfl ?_
    refine s_gI fl_12_68 rfl (by decide +kernel) (fun v5 => ?_)
    refine s_run (b := [(.aload_n 0, 1)]) 217 [some (.inr (.inr x0)), none, none, none] [.inr (.inr x0), .inl v5] (by decide +kernel) rfl ?_
    refine s_gI fl_12_75 rfl (by decide +kernel) (fun v6 => ?_)
    refine s_run (b := [(.isub, 1), (.iconst 2, 1)]) 222 [some (.inr (.inr x0)), none, none, none] [.inl (2 : Int32), .inl (v5 - v6)] (by decide +kernel) rfl ?_
    refine s_ic_ge (tgt := 248) (off := 26) (by decide +kernel) (by decide) (fun h7 => ?_) (fun h7 => ?_)
    · skip
      exact s_lsub (ls' := [some (.inr (.inr x0)), none, none, none]) ⟨rfl, trivial⟩ (J_X12_advance_248 M x0  K kk1 kk2_0)
    · skip
      refine s_run (b := [(.aload_n 0, 1), (.bipush 10, 2), (.aload_n 0, 1)]) 229 [some (.inr (.inr x0)), none, none, none] [.inr (.inr x0), .inl (10 : Int32), .inr (.inr x0)] (by decide +kernel) rfl ?_
      refine s_gI fl_12_99 rfl (by decide +kernel) (fun v8 => ?_)
      refine s_run (b := [(.imul, 1), (.aload_n 0, 1), (.aload_n 0, 1)]) 235 [some (.inr (.inr x0)), none, none, none] [.inr (.inr x0), .inr (.inr x0), .inl ((10 : Int32) * v8), .inr (.inr x0)] (by decide +kernel) rfl ?_
      refine s_gI fl_12_68 rfl (by decide +kernel) (fun v9 => ?_)
      refine s_cV (Z := Y_X12_byteAt) (c := 12) (vs := [.inl v9]) (st := [.inl ((10 : Int32) * v8), .inr (.inr x0)]) (rO := fun z => some (.inl z)) (mO := fun _ => M) zk_X12_byteAt zi_X12_byteAt q1474 rfl ⟨by decide, by decide⟩ ⟨rfl, rfl⟩ rfl rfl (Nat.le_of_ble_eq_true rfl) (by decide +kernel) (fun z hz => c_X12_byteAt hz) (fun v10 => ?_)
      change Sim l G Y_X12_advance lim _ _ 241 [some (.inr (.inr x0)), none, none, none] [.inl v10, .inl ((10 : Int32) * v8), .inr (.inr x0)] M
      refine s_run (b := [(.iadd, 1), (.bipush 48, 2), (.isub, 1)]) 245 [some (.inr (.inr x0)), none, none, none] [.inl ((((10 : Int32) * v8) + v10) - (48 : Int32)), .inr (.inr x0)] (by decide +kernel) rfl ?_
      refine s_pI fl_12_99 (Or.inl rfl) rfl (by decide +kernel) (fun M11 => ?_)
      exact s_lsub (ls' := [some (.inr (.inr x0)), none, none, none]) ⟨rfl, trivial⟩ (J_X12_advance_248 M11 x0  K kk1 kk2_0)
set_option maxRecDepth 20000 in
theorem L_X12_advance_198 {l : Launch} {G : Gv} {lim : Nat × Nat} (M : Mem) (x0 : Nat)  (K : ((Mem)) → Option (Option Value × Mem)) (kk2_0 : ∀ r : Mem, SimR l G Y_X12_advance lim (K r) 261 [some (.inr (.inr x0)), none, none, none] [] r) : Sim l G Y_X12_advance lim (f_X12_advance_L198 M x0 ) K 198 [some (.inr (.inr x0)), none, none, none] [] M :=
  s_iter (f := fun s : Mem => f_X12_advance_B198 s x0 ) (hd := 198) (cl := fun s => [some (.inr (.inr x0)), none, none, none]) (cm := fun s => s) (xp := fun _ => 261) (xl := fun r => [some (.inr (.inr x0)), none, none, none]) (xm := fun r => r) (fun s K h1 h2 => B_X12_advance_198 s x0  K (fun a_ => h1 a_) (fun a_ => h2 a_)) 1048576 M K kk2_0
def f_X12_advance_J280 (M : Mem)  (y0 : Nat) (y1 : Int32) : Option (Mem) :=
  (pI M 12 y0 5 y1).bind fun M1 =>
  some M1
set_option maxRecDepth 20000 in
theorem J_X12_advance_280 {l : Launch} {G : Gv} {lim : Nat × Nat} (M : Mem)  (y0 : Nat) (y1 : Int32)  : Sim l G Y_X12_advance lim (f_X12_advance_J280 M y0 y1) (fun z => some (none, z)) 280 [none, none, none, none] [.inl y1, .inr (.inr y0)] M := by
  unfold f_X12_advance_J280
  refine s_pI fl_12_78 (Or.inl rfl) rfl (by decide +kernel) (fun M1 => ?_)
  refine s_run (b := [(.goto 28, 3)]) 311 [none, none, none, none] [] (by decide +kernel) rfl ?_
  exact s_vret (by decide +kernel) rfl
def f_X12_advance_J125 (M : Mem) (x0 : Nat) (x2 : Int64)  : Option ((Int64 × Mem) ⊕ ((Int64 × Mem))) :=
  (gI M 12 x0 3).bind fun v1 =>
  (pI M 12 x0 3 (v1 + (1 : Int32))).bind fun M2 =>
  some (.inl (x2, M2))
set_option maxRecDepth 20000 in
theorem J_X12_advance_125 {l : Launch} {G : Gv} {lim : Nat × Nat} (M : Mem) (x0 : Nat) (x2 : Int64)  (K : (Int64 × Mem) ⊕ ((Int64 × Mem)) → Option (Option Value × Mem)) (kk1 : ∀ (s2 : Int64) (s_ : Mem), SimR l G Y_X12_advance lim (K (.inl (s2, s_))) 77 [some (.inr (.inr x0)), none, some (.inr (.inl s2)), none] [] s_) (kk2_0 : ∀ (s2 : Int64) (s_ : Mem), SimR l G Y_X12_advance lim (K (.inr (s2, s_))) 138 [some (.inr (.inr x0)), none, some (.inr (.inl s2)), none] [] s_) : Sim l G Y_X12_advance lim (f_X12_advance_J125 M x0 x2) K 125 [some (.inr (.inr x0)), none, some (.inr (.inl x2)), none] [] M := by
  unfold f_X12_advance_J125
  refine s_run (b := [(.aload_n 0, 1), (.dup, 1)]) 127 [some (.inr (.inr x0)), none, some (.inr (.inl x2)), none] [.inr (.inr x0), .inr (.inr x0)] (by decide +kernel) rfl ?_
  refine s_gI fl_12_68 rfl (by decide +kernel) (fun v1 => ?_)
  refine s_run (b := [(.iconst 1, 1), (.iadd, 1)]) 132 [some (.inr (.inr x0)), none, some (.inr (.inl x2)), none] [.inl (v1 + (1 : Int32)), .inr (.inr x0)] (by decide +kernel) rfl ?_
  refine s_pI fl_12_68 (Or.inl rfl) rfl (by decide +kernel) (fun M2 => ?_)
  refine s_run (b := [(.goto (-58), 3)]) 77 [some (.inr (.inr x0)), none, some (.inr (.inl x2)), none] [] (by decide +kernel) rfl ?_
  exact s_lsub (ls' := [some (.inr (.inr x0)), none, some (.inr (.inl x2)), none]) ⟨rfl, ⟨rfl, trivial⟩⟩ (kk1 x2 M2)
def f_X12_advance_B77 (M : Mem) (x0 : Nat) (x2 : Int64) : Option ((Int64 × Mem) ⊕ ((Int64 × Mem))) :=
  (gI M 12 x0 3).bind fun v1 =>
  (ob M 12 x0).bind fun _ => (f_X12_byteAt M x0 v1).bind fun v2 =>
  (f_X12_isLetter M v2).bind fun v3 =>
  (if v3 = 0 then
    some (.inr (x2, M))
  else
    (gI M 12 x0 3).bind fun v5 =>
    (gI M 12 x0 4).bind fun v6 =>
    (if (8 : Int32) ≤ (v5 - v6) then
      f_X12_advance_J125 M x0 x2 
    else
      (gI M 12 x0 3).bind fun v8 =>
      (ob M 12 x0).bind fun _ => (f_X12_byteAt M x0 v8).bind fun v9 =>
      f_X12_advance_J125 M x0 ((((32 : Int64) * x2) + (Int32.toInt64 v9)) - (96 : Int64)) ))
def f_X12_advance_L77 (M : Mem) (x0 : Nat) (x2 : Int64) : Option ((Int64 × Mem)) := iter (fun s : Int64 × Mem => f_X12_advance_B77 s.2 x0 s.1) 1048576 (x2, M)
set_option maxRecDepth 20000 in
theorem B_X12_advance_77 {l : Launch} {G : Gv} {lim : Nat × Nat} (M : Mem) (x0 : Nat) (x2 : Int64) (K : (Int64 × Mem) ⊕ ((Int64 × Mem)) → Option (Option Value × Mem)) (kk1 : ∀ (s2 : Int64) (s_ : Mem), SimR l G Y_X12_advance lim (K (.inl (s2, s_))) 77 [some (.inr (.inr x0)), none, some (.inr (.inl s2)), none] [] s_) (kk2_0 : ∀ (s2 : Int64) (s_ : Mem), SimR l G Y_X12_advance lim (K (.inr (s2, s_))) 138 [some (.inr (.inr x0)), none, some (.inr (.inl s2)), none] [] s_) : Sim l G Y_X12_advance lim (f_X12_advance_B77 M x0 x2) K 77 [some (.inr (.inr x0)), none, some (.inr (.inl x2)), none] [] M := by
  unfold f_X12_advance_B77
  refine s_run (b := [(.aload_n 0, 1), (.aload_n 0, 1)]) 79 [some (.inr (.inr x0)), none, some (.inr (.inl x2)), none] [.inr (.inr x0), .inr (.inr x0)] (by decide +kernel) rfl ?_
  refine s_gI fl_12_68 rfl (by decide +kernel) (fun v1 => ?_)
  refine s_cV (Z := Y_X12_byteAt) (c := 12) (vs := [.inl v1]) (st := []) (rO := fun z => some (.inl z)) (mO := fun _ => M) zk_X12_byteAt zi_X12_byteAt q1474 rfl ⟨by decide, by decide⟩ ⟨rfl, rfl⟩ rfl rfl (Nat.le_of_ble_eq_true rfl) (by decide +kernel) (fun z hz => c_X12_byteAt hz) (fun v2 => ?_)
  change Sim l G Y_X12_advance lim _ _ 85 [some (.inr (.inr x0)), none, some (.inr (.inl x2)), none] [.inl v2] M
  refine s_cS (Z := Y_X12_isLetter) (vs := [.inl v2]) (st := []) (rO := fun z => some (.inl z)) (mO := fun _ => M) zk_X12_isLetter q1479 q1478 ⟨by decide, by decide⟩ ⟨rfl, rfl⟩ rfl rfl (Nat.le_of_ble_eq_true rfl) (by decide +kernel) (fun z hz => c_X12_isLetter hz) (fun v3 => ?_)
  change Sim l G Y_X12_advance lim _ _ 88 [some (.inr (.inr x0)), none, some (.inr (.inl x2)), none] [.inl v3] M
  refine s_if_eq (tgt := 138) (off := 50) (by decide +kernel) (by decide) (fun h4 => ?_) (fun h4 => ?_)
  · skip
    exact s_lsub (ls' := [some (.inr (.inr x0)), none, some (.inr (.inl x2)), none]) ⟨rfl, ⟨rfl, trivial⟩⟩ (kk2_0 x2 M)
  · skip
    refine s_run (b := [(.aload_n 0, 1)]) 92 [some (.inr (.inr x0)), none, some (.inr (.inl x2)), none] [.inr (.inr x0)] (by decide +kernel) rfl ?_
    refine s_gI fl_12_68 rfl (by decide +kernel) (fun v5 => ?_)
    refine s_run (b := [(.aload_n 0, 1)]) 96 [some (.inr (.inr x0)), none, some (.inr (.inl x2)), none] [.inr (.inr x0), .inl v5] (by decide +kernel) rfl ?_
    refine s_gI fl_12_75 rfl (by decide +kernel) (fun v6 => ?_)
    refine s_run (b := [(.isub, 1), (.bipush 8, 2)]) 102 [some (.inr (.inr x0)), none, some (.inr (.inl x2)), none] [.inl (8 : Int32), .inl (v5 - v6)] (by decide +kernel) rfl ?_
    refine s_ic_ge (tgt := 125) (off := 23) (by decide +kernel) (by decide) (fun h7 => ?_) (fun h7 => ?_)
    · skip
      exact s_lsub (ls' := [some (.inr (.inr x0)), none, some (.inr (.inl x2)), none]) ⟨rfl, ⟨rfl, trivial⟩⟩ (J_X12_advance_125 M x0 x2  K kk1 kk2_0)
    · skip
      refine s_ldc2 q1481 (by decide +kernel) ?_
      change Sim l G Y_X12_advance lim _ _ 108 [some (.inr (.inr x0)), none, some (.inr (.inl x2)), none] [.inr (.inl (32 : Int64))] M
      refine s_run (b := [(.lload_n 2, 1), (.lmul, 1), (.aload_n 0, 1), (.aload_n 0, 1)]) 112 [some (.inr (.inr x0)), none, some (.inr (.inl x2)), none] [.inr (.inr x0), .inr (.inr x0), .inr (.inl ((32 : Int64) * x2))] (by decide +kernel) rfl ?_
      refine s_gI fl_12_68 rfl (by decide +kernel) (fun v8 => ?_)
      refine s_cV (Z := Y_X12_byteAt) (c := 12) (vs := [.inl v8]) (st := [.inr (.inl ((32 : Int64) * x2))]) (rO := fun z => some (.inl z)) (mO := fun _ => M) zk_X12_byteAt zi_X12_byteAt q1474 rfl ⟨by decide, by decide⟩ ⟨rfl, rfl⟩ rfl rfl (Nat.le_of_ble_eq_true rfl) (by decide +kernel) (fun z hz => c_X12_byteAt hz) (fun v9 => ?_)
      change Sim l G Y_X12_advance lim _ _ 118 [some (.inr (.inr x0)), none, some (.inr (.inl x2)), none] [.inl v9, .inr (.inl ((32 : Int64) * x2))] M
      refine s_run (b := [(.i2l, 1), (.ladd, 1)]) 120 [some (.inr (.inr x0)), none, some (.inr (.inl x2)), none] [.inr (.inl (((32 : Int64) * x2) + (Int32.toInt64 v9)))] (by decide +kernel) rfl ?_
      refine s_ldc2 q1482 (by decide +kernel) ?_
      change Sim l G Y_X12_advance lim _ _ 123 [some (.inr (.inr x0)), none, some (.inr (.inl x2)), none] [.inr (.inl (96 : Int64)), .inr (.inl (((32 : Int64) * x2) + (Int32.toInt64 v9)))] M
      refine s_run (b := [(.lsub, 1), (.lstore_n 2, 1)]) 125 [some (.inr (.inr x0)), none, some (.inr (.inl ((((32 : Int64) * x2) + (Int32.toInt64 v9)) - (96 : Int64)))), none] [] (by decide +kernel) rfl ?_
      exact s_lsub (ls' := [some (.inr (.inr x0)), none, some (.inr (.inl ((((32 : Int64) * x2) + (Int32.toInt64 v9)) - (96 : Int64)))), none]) ⟨rfl, ⟨rfl, trivial⟩⟩ (J_X12_advance_125 M x0 ((((32 : Int64) * x2) + (Int32.toInt64 v9)) - (96 : Int64))  K kk1 kk2_0)
set_option maxRecDepth 20000 in
theorem L_X12_advance_77 {l : Launch} {G : Gv} {lim : Nat × Nat} (M : Mem) (x0 : Nat) (x2 : Int64) (K : ((Int64 × Mem)) → Option (Option Value × Mem)) (kk2_0 : ∀ r : Int64 × Mem, SimR l G Y_X12_advance lim (K r) 138 [some (.inr (.inr x0)), none, some (.inr (.inl r.1)), none] [] r.2) : Sim l G Y_X12_advance lim (f_X12_advance_L77 M x0 x2) K 77 [some (.inr (.inr x0)), none, some (.inr (.inl x2)), none] [] M :=
  s_iter (f := fun s : Int64 × Mem => f_X12_advance_B77 s.2 x0 s.1) (hd := 77) (cl := fun s => [some (.inr (.inr x0)), none, some (.inr (.inl s.1)), none]) (cm := fun s => s.2) (xp := fun _ => 138) (xl := fun r => [some (.inr (.inr x0)), none, some (.inr (.inl r.1)), none]) (xm := fun r => r.2) (fun s K h1 h2 => B_X12_advance_77 s.2 x0 s.1 K (fun a2 a_ => h1 (a2, a_)) (fun a2 a_ => h2 (a2, a_))) 1048576 (x2, M) K kk2_0
def f_X12_advance_J180 (M : Mem)  (y0 : Nat) (y1 : Int32) : Option (Mem) :=
  (pI M 12 y0 5 y1).bind fun M1 =>
  some M1
set_option maxRecDepth 20000 in
theorem J_X12_advance_180 {l : Launch} {G : Gv} {lim : Nat × Nat} (M : Mem)  (y0 : Nat) (y1 : Int32)  : Sim l G Y_X12_advance lim (f_X12_advance_J180 M y0 y1) (fun z => some (none, z)) 180 [none, none, none, none] [.inl y1, .inr (.inr y0)] M := by
  unfold f_X12_advance_J180
  refine s_pI fl_12_78 (Or.inl rfl) rfl (by decide +kernel) (fun M1 => ?_)
  refine s_run (b := [(.goto 128, 3)]) 311 [none, none, none, none] [] (by decide +kernel) rfl ?_
  exact s_vret (by decide +kernel) rfl
def f_X12_advance_J162 (M : Mem) (x0 : Nat) (y0 : Nat) (y1 : Int32) : Option (Mem) :=
  (pI M 12 y0 7 y1).bind fun M1 =>
  (gI M1 12 x0 7).bind fun v2 =>
  (if v2 = (99 : Int32) then
    f_X12_advance_J180 M1  x0 (4 : Int32)
  else
    f_X12_advance_J180 M1  x0 (3 : Int32))
set_option maxRecDepth 20000 in
theorem J_X12_advance_162 {l : Launch} {G : Gv} {lim : Nat × Nat} (M : Mem) (x0 : Nat) (y0 : Nat) (y1 : Int32)  : Sim l G Y_X12_advance lim (f_X12_advance_J162 M x0 y0 y1) (fun z => some (none, z)) 162 [some (.inr (.inr x0)), none, none, none] [.inl y1, .inr (.inr y0)] M := by
  unfold f_X12_advance_J162
  refine s_pI fl_12_93 (Or.inl rfl) rfl (by decide +kernel) (fun M1 => ?_)
  refine s_run (b := [(.aload_n 0, 1), (.aload_n 0, 1)]) 167 [some (.inr (.inr x0)), none, none, none] [.inr (.inr x0), .inr (.inr x0)] (by decide +kernel) rfl ?_
  refine s_gI fl_12_93 rfl (by decide +kernel) (fun v2 => ?_)
  refine s_run (b := [(.bipush 99, 2)]) 172 [some (.inr (.inr x0)), none, none, none] [.inl (99 : Int32), .inl v2, .inr (.inr x0)] (by decide +kernel) rfl ?_
  refine s_ic_ne (tgt := 179) (off := 7) (by decide +kernel) (by decide) (fun h3 => ?_) (fun h3 => ?_)
  · skip
    refine s_run (b := [(.iconst 4, 1), (.goto 4, 3)]) 180 [some (.inr (.inr x0)), none, none, none] [.inl (4 : Int32), .inr (.inr x0)] (by decide +kernel) rfl ?_
    exact s_lsub (ls' := [none, none, none, none]) trivial (J_X12_advance_180 M1  x0 (4 : Int32))
  · skip
    refine s_run (b := [(.iconst 3, 1)]) 180 [some (.inr (.inr x0)), none, none, none] [.inl (3 : Int32), .inr (.inr x0)] (by decide +kernel) rfl ?_
    exact s_lsub (ls' := [none, none, none, none]) trivial (J_X12_advance_180 M1  x0 (3 : Int32))
def f_X12_advance (M : Mem) (x0 : Nat) : Option (Mem) :=
  (f_X12_advance_L0 M x0 ).bind fun r1 =>
  (gI r1 12 x0 3).bind fun v2 =>
  (pI r1 12 x0 4 v2).bind fun M3 =>
  (gI M3 12 x0 3).bind fun v4 =>
  (ob M3 12 x0).bind fun _ => (f_X12_byteAt M3 x0 v4).bind fun v5 =>
  (if 0 ≤ v5 then
    (f_X12_isLetter M3 v5).bind fun v7 =>
    (if v7 = 0 then
      (f_X12_isDigit M3 v5).bind fun v9 =>
      (if v9 = 0 then
        (gI M3 12 x0 3).bind fun v11 =>
        (pI M3 12 x0 3 (v11 + (1 : Int32))).bind fun M12 =>
        (if v5 = (59 : Int32) then
          f_X12_advance_J308 M12  x0 (2 : Int32)
        else
          f_X12_advance_J308 M12  x0 (4 : Int32))
      else
        (pI M3 12 x0 6 (0 : Int32)).bind fun M14 =>
        (f_X12_advance_L198 M14 x0 ).bind fun r15 =>
        (gI r15 12 x0 3).bind fun v16 =>
        (gI r15 12 x0 4).bind fun v17 =>
        (if (v16 - v17) ≤ (2 : Int32) then
          f_X12_advance_J280 r15  x0 (1 : Int32)
        else
          f_X12_advance_J280 r15  x0 (4 : Int32)))
    else
      (f_X12_advance_L77 M3 x0 (0 : Int64)).bind fun r19 =>
      (gI r19.2 12 x0 3).bind fun v20 =>
      (gI r19.2 12 x0 4).bind fun v21 =>
      (if (v20 - v21) ≤ (8 : Int32) then
        (f_X12_wordOf r19.2 r19.1).bind fun v23 =>
        f_X12_advance_J162 r19.2 x0 x0 v23
      else
        f_X12_advance_J162 r19.2 x0 x0 (99 : Int32)))
  else
    (pI M3 12 x0 5 (0 : Int32)).bind fun M24 =>
    some M24)
set_option maxRecDepth 20000 in
theorem S_X12_advance {l : Launch} {G : Gv} {lim : Nat × Nat} (M : Mem) (x0 : Nat) : Sim l G Y_X12_advance lim (f_X12_advance M x0) (fun z => some (none, z)) 0 [some (.inr (.inr x0)), none, none, none] [] M := by
  unfold f_X12_advance
  refine s_lsub (ls' := [some (.inr (.inr x0)), none, none, none]) ⟨rfl, trivial⟩ ?_
  refine sim_bind (L_X12_advance_0 M x0  _ (fun r1 => ?_))
  change Sim l G Y_X12_advance lim _ _ 39 [some (.inr (.inr x0)), none, none, none] [] r1
  refine s_run (b := [(.aload_n 0, 1), (.aload_n 0, 1)]) 41 [some (.inr (.inr x0)), none, none, none] [.inr (.inr x0), .inr (.inr x0)] (by decide +kernel) rfl ?_
  refine s_gI fl_12_68 rfl (by decide +kernel) (fun v2 => ?_)
  refine s_pI fl_12_75 (Or.inl rfl) rfl (by decide +kernel) (fun M3 => ?_)
  refine s_run (b := [(.aload_n 0, 1), (.aload_n 0, 1)]) 49 [some (.inr (.inr x0)), none, none, none] [.inr (.inr x0), .inr (.inr x0)] (by decide +kernel) rfl ?_
  refine s_gI fl_12_68 rfl (by decide +kernel) (fun v4 => ?_)
  refine s_cV (Z := Y_X12_byteAt) (c := 12) (vs := [.inl v4]) (st := []) (rO := fun z => some (.inl z)) (mO := fun _ => M3) zk_X12_byteAt zi_X12_byteAt q1474 rfl ⟨by decide, by decide⟩ ⟨rfl, rfl⟩ rfl rfl (Nat.le_of_ble_eq_true rfl) (by decide +kernel) (fun z hz => c_X12_byteAt hz) (fun v5 => ?_)
  change Sim l G Y_X12_advance lim _ _ 55 [some (.inr (.inr x0)), none, none, none] [.inl v5] M3
  refine s_run (b := [(.istore_n 1, 1), (.iload_n 1, 1)]) 57 [some (.inr (.inr x0)), some (.inl v5), none, none] [.inl v5] (by decide +kernel) rfl ?_
  refine s_if_ge (tgt := 68) (off := 11) (by decide +kernel) (by decide) (fun h6 => ?_) (fun h6 => ?_)
  · skip
    refine s_run (b := [(.iload_n 1, 1)]) 69 [some (.inr (.inr x0)), some (.inl v5), none, none] [.inl v5] (by decide +kernel) rfl ?_
    refine s_cS (Z := Y_X12_isLetter) (vs := [.inl v5]) (st := []) (rO := fun z => some (.inl z)) (mO := fun _ => M3) zk_X12_isLetter q1479 q1478 ⟨by decide, by decide⟩ ⟨rfl, rfl⟩ rfl rfl (Nat.le_of_ble_eq_true rfl) (by decide +kernel) (fun z hz => c_X12_isLetter hz) (fun v7 => ?_)
    change Sim l G Y_X12_advance lim _ _ 72 [some (.inr (.inr x0)), some (.inl v5), none, none] [.inl v7] M3
    refine s_if_eq (tgt := 186) (off := 114) (by decide +kernel) (by decide) (fun h8 => ?_) (fun h8 => ?_)
    · skip
      refine s_run (b := [(.iload_n 1, 1)]) 187 [some (.inr (.inr x0)), some (.inl v5), none, none] [.inl v5] (by decide +kernel) rfl ?_
      refine s_cS (Z := Y_X12_isDigit) (vs := [.inl v5]) (st := []) (rO := fun z => some (.inl z)) (mO := fun _ => M3) zk_X12_isDigit q1494 q1493 ⟨by decide, by decide⟩ ⟨rfl, rfl⟩ rfl rfl (Nat.le_of_ble_eq_true rfl) (by decide +kernel) (fun z hz => c_X12_isDigit hz) (fun v9 => ?_)
      change Sim l G Y_X12_advance lim _ _ 190 [some (.inr (.inr x0)), some (.inl v5), none, none] [.inl v9] M3
      refine s_if_eq (tgt := 286) (off := 96) (by decide +kernel) (by decide) (fun h10 => ?_) (fun h10 => ?_)
      · skip
        refine s_run (b := [(.aload_n 0, 1), (.dup, 1)]) 288 [some (.inr (.inr x0)), some (.inl v5), none, none] [.inr (.inr x0), .inr (.inr x0)] (by decide +kernel) rfl ?_
        refine s_gI fl_12_68 rfl (by decide +kernel) (fun v11 => ?_)
        refine s_run (b := [(.iconst 1, 1), (.iadd, 1)]) 293 [some (.inr (.inr x0)), some (.inl v5), none, none] [.inl (v11 + (1 : Int32)), .inr (.inr x0)] (by decide +kernel) rfl ?_
        refine s_pI fl_12_68 (Or.inl rfl) rfl (by decide +kernel) (fun M12 => ?_)
        refine s_run (b := [(.aload_n 0, 1), (.iload_n 1, 1), (.bipush 59, 2)]) 300 [some (.inr (.inr x0)), some (.inl v5), none, none] [.inl (59 : Int32), .inl v5, .inr (.inr x0)] (by decide +kernel) rfl ?_
        refine s_ic_ne (tgt := 307) (off := 7) (by decide +kernel) (by decide) (fun h13 => ?_) (fun h13 => ?_)
        · skip
          refine s_run (b := [(.iconst 2, 1), (.goto 4, 3)]) 308 [some (.inr (.inr x0)), some (.inl v5), none, none] [.inl (2 : Int32), .inr (.inr x0)] (by decide +kernel) rfl ?_
          exact s_lsub (ls' := [none, none, none, none]) trivial (J_X12_advance_308 M12  x0 (2 : Int32))
        · skip
          refine s_run (b := [(.iconst 4, 1)]) 308 [some (.inr (.inr x0)), some (.inl v5), none, none] [.inl (4 : Int32), .inr (.inr x0)] (by decide +kernel) rfl ?_
          exact s_lsub (ls' := [none, none, none, none]) trivial (J_X12_advance_308 M12  x0 (4 : Int32))
      · skip
        refine s_run (b := [(.aload_n 0, 1), (.iconst 0, 1)]) 195 [some (.inr (.inr x0)), some (.inl v5), none, none] [.inl (0 : Int32), .inr (.inr x0)] (by decide +kernel) rfl ?_
        refine s_pI fl_12_99 (Or.inl rfl) rfl (by decide +kernel) (fun M14 => ?_)
        refine s_lsub (ls' := [some (.inr (.inr x0)), none, none, none]) ⟨rfl, trivial⟩ ?_
        refine sim_bind (L_X12_advance_198 M14 x0  _ (fun r15 => ?_))
        change Sim l G Y_X12_advance lim _ _ 261 [some (.inr (.inr x0)), none, none, none] [] r15
        refine s_run (b := [(.aload_n 0, 1), (.aload_n 0, 1)]) 263 [some (.inr (.inr x0)), none, none, none] [.inr (.inr x0), .inr (.inr x0)] (by decide +kernel) rfl ?_
        refine s_gI fl_12_68 rfl (by decide +kernel) (fun v16 => ?_)
        refine s_run (b := [(.aload_n 0, 1)]) 267 [some (.inr (.inr x0)), none, none, none] [.inr (.inr x0), .inl v16, .inr (.inr x0)] (by decide +kernel) rfl ?_
        refine s_gI fl_12_75 rfl (by decide +kernel) (fun v17 => ?_)
        refine s_run (b := [(.isub, 1), (.iconst 2, 1)]) 272 [some (.inr (.inr x0)), none, none, none] [.inl (2 : Int32), .inl (v16 - v17), .inr (.inr x0)] (by decide +kernel) rfl ?_
        refine s_ic_le (tgt := 279) (off := 7) (by decide +kernel) (by decide) (fun h18 => ?_) (fun h18 => ?_)
        · skip
          refine s_run (b := [(.iconst 1, 1)]) 280 [some (.inr (.inr x0)), none, none, none] [.inl (1 : Int32), .inr (.inr x0)] (by decide +kernel) rfl ?_
          exact s_lsub (ls' := [none, none, none, none]) trivial (J_X12_advance_280 r15  x0 (1 : Int32))
        · skip
          refine s_run (b := [(.iconst 4, 1), (.goto 4, 3)]) 280 [some (.inr (.inr x0)), none, none, none] [.inl (4 : Int32), .inr (.inr x0)] (by decide +kernel) rfl ?_
          exact s_lsub (ls' := [none, none, none, none]) trivial (J_X12_advance_280 r15  x0 (4 : Int32))
    · skip
      refine s_run (b := [(.lconst 0, 1), (.lstore_n 2, 1)]) 77 [some (.inr (.inr x0)), some (.inl v5), some (.inr (.inl (0 : Int64))), none] [] (by decide +kernel) rfl ?_
      refine s_lsub (ls' := [some (.inr (.inr x0)), none, some (.inr (.inl (0 : Int64))), none]) ⟨rfl, ⟨rfl, trivial⟩⟩ ?_
      refine sim_bind (L_X12_advance_77 M3 x0 (0 : Int64) _ (fun r19 => ?_))
      change Sim l G Y_X12_advance lim _ _ 138 [some (.inr (.inr x0)), none, some (.inr (.inl r19.1)), none] [] r19.2
      refine s_run (b := [(.aload_n 0, 1), (.aload_n 0, 1)]) 140 [some (.inr (.inr x0)), none, some (.inr (.inl r19.1)), none] [.inr (.inr x0), .inr (.inr x0)] (by decide +kernel) rfl ?_
      refine s_gI fl_12_68 rfl (by decide +kernel) (fun v20 => ?_)
      refine s_run (b := [(.aload_n 0, 1)]) 144 [some (.inr (.inr x0)), none, some (.inr (.inl r19.1)), none] [.inr (.inr x0), .inl v20, .inr (.inr x0)] (by decide +kernel) rfl ?_
      refine s_gI fl_12_75 rfl (by decide +kernel) (fun v21 => ?_)
      refine s_run (b := [(.isub, 1), (.bipush 8, 2)]) 150 [some (.inr (.inr x0)), none, some (.inr (.inl r19.1)), none] [.inl (8 : Int32), .inl (v20 - v21), .inr (.inr x0)] (by decide +kernel) rfl ?_
      refine s_ic_le (tgt := 158) (off := 8) (by decide +kernel) (by decide) (fun h22 => ?_) (fun h22 => ?_)
      · skip
        refine s_run (b := [(.lload_n 2, 1)]) 159 [some (.inr (.inr x0)), none, some (.inr (.inl r19.1)), none] [.inr (.inl r19.1), .inr (.inr x0)] (by decide +kernel) rfl ?_
        refine s_cS (Z := Y_X12_wordOf) (vs := [.inr (.inl r19.1)]) (st := [.inr (.inr x0)]) (rO := fun z => some (.inl z)) (mO := fun _ => r19.2) zk_X12_wordOf q1484 q1483 ⟨by decide, by decide⟩ ⟨rfl, rfl⟩ rfl rfl (Nat.le_of_ble_eq_true rfl) (by decide +kernel) (fun z hz => c_X12_wordOf hz) (fun v23 => ?_)
        change Sim l G Y_X12_advance lim _ _ 162 [some (.inr (.inr x0)), none, some (.inr (.inl r19.1)), none] [.inl v23, .inr (.inr x0)] r19.2
        exact s_lsub (ls' := [some (.inr (.inr x0)), none, none, none]) ⟨rfl, trivial⟩ (J_X12_advance_162 r19.2 x0 x0 v23)
      · skip
        refine s_run (b := [(.bipush 99, 2), (.goto 7, 3)]) 162 [some (.inr (.inr x0)), none, some (.inr (.inl r19.1)), none] [.inl (99 : Int32), .inr (.inr x0)] (by decide +kernel) rfl ?_
        exact s_lsub (ls' := [some (.inr (.inr x0)), none, none, none]) ⟨rfl, trivial⟩ (J_X12_advance_162 r19.2 x0 x0 (99 : Int32))
  · skip
    refine s_run (b := [(.aload_n 0, 1), (.iconst 0, 1)]) 62 [some (.inr (.inr x0)), some (.inl v5), none, none] [.inl (0 : Int32), .inr (.inr x0)] (by decide +kernel) rfl ?_
    refine s_pI fl_12_78 (Or.inl rfl) rfl (by decide +kernel) (fun M24 => ?_)
    refine s_run (b := [(.goto 246, 3)]) 311 [some (.inr (.inr x0)), some (.inl v5), none, none] [] (by decide +kernel) rfl ?_
    exact s_vret (by decide +kernel) rfl
set_option maxRecDepth 20000 in
theorem c_X12_advance {l : Launch} {G : Gv} {M : Mem} {x0 : Nat} {z : Mem} (h : f_X12_advance M x0 = some z) : MetS l G Y_X12_advance [.inr (.inr x0)] M none z :=
  met_of (ls0 := [some (.inr (.inr x0)), none, none, none]) (by decide) rfl (lv_in (m := 3) rfl) (sl_le (Nat.le_of_ble_eq_true rfl)) (by rw [h]; rfl) (Or.inl ⟨rfl, rfl⟩) (S_X12_advance M x0)
def f_X12_also_J49 (M : Mem) (x0 : Nat) (x1 : Int32) (x2 : Int32)  : Option (Mem) :=
  (gR M 12 x0 0).bind fun v1 =>
  (sI M 0 v1 (5 : Int32) x1).bind fun M2 =>
  (gR M2 12 x0 0).bind fun v3 =>
  (sI M2 0 v3 (6 : Int32) x2).bind fun M4 =>
  some M4
set_option maxRecDepth 20000 in
theorem J_X12_also_49 {l : Launch} {G : Gv} {lim : Nat × Nat} (M : Mem) (x0 : Nat) (x1 : Int32) (x2 : Int32)   : Sim l G Y_X12_also lim (f_X12_also_J49 M x0 x1 x2) (fun z => some (none, z)) 49 [some (.inr (.inr x0)), some (.inl x1), some (.inl x2)] [] M := by
  unfold f_X12_also_J49
  refine s_run (b := [(.aload_n 0, 1)]) 50 [some (.inr (.inr x0)), some (.inl x1), some (.inl x2)] [.inr (.inr x0)] (by decide +kernel) rfl ?_
  refine s_gR fl_12_7 rfl (by decide +kernel) (fun v1 => ?_)
  refine s_run (b := [(.iconst 5, 1), (.iload_n 1, 1)]) 55 [some (.inr (.inr x0)), some (.inl x1), some (.inl x2)] [.inl x1, .inl (5 : Int32), .inr (.inr v1)] (by decide +kernel) rfl ?_
  refine s_is (by decide +kernel) (fun M2 => ?_)
  refine s_run (b := [(.aload_n 0, 1)]) 57 [some (.inr (.inr x0)), some (.inl x1), some (.inl x2)] [.inr (.inr x0)] (by decide +kernel) rfl ?_
  refine s_gR fl_12_7 rfl (by decide +kernel) (fun v3 => ?_)
  refine s_run (b := [(.bipush 6, 2), (.iload_n 2, 1)]) 63 [some (.inr (.inr x0)), some (.inl x1), some (.inl x2)] [.inl x2, .inl (6 : Int32), .inr (.inr v3)] (by decide +kernel) rfl ?_
  refine s_is (by decide +kernel) (fun M4 => ?_)
  exact s_vret (by decide +kernel) rfl
def f_X12_also (M : Mem) (x0 : Nat) (x1 : Int32) (x2 : Int32) : Option (Mem) :=
  (gI M 12 x0 8).bind fun v1 =>
  (if v1 = 0 then
    (gR M 12 x0 0).bind fun v3 =>
    (aI M 0 v3 (5 : Int32)).bind fun v4 =>
    (if v4 = 0 then
      f_X12_also_J49 M x0 x1 x2 
    else
      (gR M 12 x0 0).bind fun v6 =>
      (aI M 0 v6 (6 : Int32)).bind fun v7 =>
      (if v7 < x2 then
        some M
      else
        (gR M 12 x0 0).bind fun v9 =>
        (aI M 0 v9 (6 : Int32)).bind fun v10 =>
        (if v10 = x2 then
          (gR M 12 x0 0).bind fun v12 =>
          (aI M 0 v12 (5 : Int32)).bind fun v13 =>
          (if x1 < v13 then
            f_X12_also_J49 M x0 x1 x2 
          else
            some M)
        else
          f_X12_also_J49 M x0 x1 x2 )))
  else
    some M)
set_option maxRecDepth 20000 in
theorem S_X12_also {l : Launch} {G : Gv} {lim : Nat × Nat} (M : Mem) (x0 : Nat) (x1 : Int32) (x2 : Int32) : Sim l G Y_X12_also lim (f_X12_also M x0 x1 x2) (fun z => some (none, z)) 0 [some (.inr (.inr x0)), some (.inl x1), some (.inl x2)] [] M := by
  unfold f_X12_also
  refine s_run (b := [(.aload_n 0, 1)]) 1 [some (.inr (.inr x0)), some (.inl x1), some (.inl x2)] [.inr (.inr x0)] (by decide +kernel) rfl ?_
  refine s_gI fl_12_102 rfl (by decide +kernel) (fun v1 => ?_)
  refine s_if_ne (tgt := 48) (off := 44) (by decide +kernel) (by decide) (fun h2 => ?_) (fun h2 => ?_)
  · skip
    refine s_run (b := [(.aload_n 0, 1)]) 8 [some (.inr (.inr x0)), some (.inl x1), some (.inl x2)] [.inr (.inr x0)] (by decide +kernel) rfl ?_
    refine s_gR fl_12_7 rfl (by decide +kernel) (fun v3 => ?_)
    refine s_run (b := [(.iconst 5, 1)]) 12 [some (.inr (.inr x0)), some (.inl x1), some (.inl x2)] [.inl (5 : Int32), .inr (.inr v3)] (by decide +kernel) rfl ?_
    refine s_ia (by decide +kernel) (fun v4 => ?_)
    refine s_if_eq (tgt := 49) (off := 36) (by decide +kernel) (by decide) (fun h5 => ?_) (fun h5 => ?_)
    · skip
      exact s_lsub (ls' := [some (.inr (.inr x0)), some (.inl x1), some (.inl x2)]) ⟨rfl, ⟨rfl, ⟨rfl, trivial⟩⟩⟩ (J_X12_also_49 M x0 x1 x2 )
    · skip
      refine s_run (b := [(.aload_n 0, 1)]) 17 [some (.inr (.inr x0)), some (.inl x1), some (.inl x2)] [.inr (.inr x0)] (by decide +kernel) rfl ?_
      refine s_gR fl_12_7 rfl (by decide +kernel) (fun v6 => ?_)
      refine s_run (b := [(.bipush 6, 2)]) 22 [some (.inr (.inr x0)), some (.inl x1), some (.inl x2)] [.inl (6 : Int32), .inr (.inr v6)] (by decide +kernel) rfl ?_
      refine s_ia (by decide +kernel) (fun v7 => ?_)
      refine s_run (b := [(.iload_n 2, 1)]) 24 [some (.inr (.inr x0)), some (.inl x1), some (.inl x2)] [.inl x2, .inl v7] (by decide +kernel) rfl ?_
      refine s_ic_lt (tgt := 48) (off := 24) (by decide +kernel) (by decide) (fun h8 => ?_) (fun h8 => ?_)
      · skip
        exact s_vret (by decide +kernel) rfl
      · skip
        refine s_run (b := [(.aload_n 0, 1)]) 28 [some (.inr (.inr x0)), some (.inl x1), some (.inl x2)] [.inr (.inr x0)] (by decide +kernel) rfl ?_
        refine s_gR fl_12_7 rfl (by decide +kernel) (fun v9 => ?_)
        refine s_run (b := [(.bipush 6, 2)]) 33 [some (.inr (.inr x0)), some (.inl x1), some (.inl x2)] [.inl (6 : Int32), .inr (.inr v9)] (by decide +kernel) rfl ?_
        refine s_ia (by decide +kernel) (fun v10 => ?_)
        refine s_run (b := [(.iload_n 2, 1)]) 35 [some (.inr (.inr x0)), some (.inl x1), some (.inl x2)] [.inl x2, .inl v10] (by decide +kernel) rfl ?_
        refine s_ic_ne (tgt := 49) (off := 14) (by decide +kernel) (by decide) (fun h11 => ?_) (fun h11 => ?_)
        · skip
          refine s_run (b := [(.aload_n 0, 1)]) 39 [some (.inr (.inr x0)), some (.inl x1), some (.inl x2)] [.inr (.inr x0)] (by decide +kernel) rfl ?_
          refine s_gR fl_12_7 rfl (by decide +kernel) (fun v12 => ?_)
          refine s_run (b := [(.iconst 5, 1)]) 43 [some (.inr (.inr x0)), some (.inl x1), some (.inl x2)] [.inl (5 : Int32), .inr (.inr v12)] (by decide +kernel) rfl ?_
          refine s_ia (by decide +kernel) (fun v13 => ?_)
          refine s_run (b := [(.iload_n 1, 1)]) 45 [some (.inr (.inr x0)), some (.inl x1), some (.inl x2)] [.inl x1, .inl v13] (by decide +kernel) rfl ?_
          refine s_ic_gt (tgt := 49) (off := 4) (by decide +kernel) (by decide) (fun h14 => ?_) (fun h14 => ?_)
          · skip
            exact s_lsub (ls' := [some (.inr (.inr x0)), some (.inl x1), some (.inl x2)]) ⟨rfl, ⟨rfl, ⟨rfl, trivial⟩⟩⟩ (J_X12_also_49 M x0 x1 x2 )
          · skip
            exact s_vret (by decide +kernel) rfl
        · skip
          exact s_lsub (ls' := [some (.inr (.inr x0)), some (.inl x1), some (.inl x2)]) ⟨rfl, ⟨rfl, ⟨rfl, trivial⟩⟩⟩ (J_X12_also_49 M x0 x1 x2 )
  · skip
    exact s_vret (by decide +kernel) rfl
set_option maxRecDepth 20000 in
theorem c_X12_also {l : Launch} {G : Gv} {M : Mem} {x0 : Nat} {x1 : Int32} {x2 : Int32} {z : Mem} (h : f_X12_also M x0 x1 x2 = some z) : MetS l G Y_X12_also [.inr (.inr x0), .inl x1, .inl x2] M none z :=
  met_of (ls0 := [some (.inr (.inr x0)), some (.inl x1), some (.inl x2)]) (by decide) rfl (lv_in (m := 0) rfl) (sl_le (Nat.le_of_ble_eq_true rfl)) (by rw [h]; rfl) (Or.inl ⟨rfl, rfl⟩) (S_X12_also M x0 x1 x2)
def f_X12_ends (M : Mem) (x0 : Nat) : Option (Mem) :=
  (gI M 12 x0 8).bind fun v1 =>
  (if v1 = 0 then
    (pZ M 12 x0 8 (1 : Int32)).bind fun M3 =>
    (gR M3 12 x0 0).bind fun v4 =>
    (sI M3 0 v4 (5 : Int32) (1 : Int32)).bind fun M5 =>
    (gR M5 12 x0 0).bind fun v6 =>
    (gI M5 12 x0 4).bind fun v7 =>
    (sI M5 0 v6 (6 : Int32) v7).bind fun M8 =>
    some M8
  else
    some M)
set_option maxRecDepth 20000 in
theorem S_X12_ends {l : Launch} {G : Gv} {lim : Nat × Nat} (M : Mem) (x0 : Nat) : Sim l G Y_X12_ends lim (f_X12_ends M x0) (fun z => some (none, z)) 0 [some (.inr (.inr x0))] [] M := by
  unfold f_X12_ends
  refine s_run (b := [(.aload_n 0, 1)]) 1 [some (.inr (.inr x0))] [.inr (.inr x0)] (by decide +kernel) rfl ?_
  refine s_gI fl_12_102 rfl (by decide +kernel) (fun v1 => ?_)
  refine s_if_eq (tgt := 8) (off := 4) (by decide +kernel) (by decide) (fun h2 => ?_) (fun h2 => ?_)
  · skip
    refine s_run (b := [(.aload_n 0, 1), (.iconst 1, 1)]) 10 [some (.inr (.inr x0))] [.inl (1 : Int32), .inr (.inr x0)] (by decide +kernel) rfl ?_
    refine s_pZ fl_12_102 (Or.inl rfl) rfl (by decide +kernel) (fun M3 => ?_)
    refine s_run (b := [(.aload_n 0, 1)]) 14 [some (.inr (.inr x0))] [.inr (.inr x0)] (by decide +kernel) rfl ?_
    refine s_gR fl_12_7 rfl (by decide +kernel) (fun v4 => ?_)
    refine s_run (b := [(.iconst 5, 1), (.iconst 1, 1)]) 19 [some (.inr (.inr x0))] [.inl (1 : Int32), .inl (5 : Int32), .inr (.inr v4)] (by decide +kernel) rfl ?_
    refine s_is (by decide +kernel) (fun M5 => ?_)
    refine s_run (b := [(.aload_n 0, 1)]) 21 [some (.inr (.inr x0))] [.inr (.inr x0)] (by decide +kernel) rfl ?_
    refine s_gR fl_12_7 rfl (by decide +kernel) (fun v6 => ?_)
    refine s_run (b := [(.bipush 6, 2), (.aload_n 0, 1)]) 27 [some (.inr (.inr x0))] [.inr (.inr x0), .inl (6 : Int32), .inr (.inr v6)] (by decide +kernel) rfl ?_
    refine s_gI fl_12_75 rfl (by decide +kernel) (fun v7 => ?_)
    refine s_is (by decide +kernel) (fun M8 => ?_)
    exact s_vret (by decide +kernel) rfl
  · skip
    exact s_vret (by decide +kernel) rfl
set_option maxRecDepth 20000 in
theorem c_X12_ends {l : Launch} {G : Gv} {M : Mem} {x0 : Nat} {z : Mem} (h : f_X12_ends M x0 = some z) : MetS l G Y_X12_ends [.inr (.inr x0)] M none z :=
  met_of (ls0 := [some (.inr (.inr x0))]) (by decide) rfl (lv_in (m := 0) rfl) (sl_le (Nat.le_of_ble_eq_true rfl)) (by rw [h]; rfl) (Or.inl ⟨rfl, rfl⟩) (S_X12_ends M x0)
def f_X12_endsLine_J22 (M : Mem) (x0 : Nat)  : Option (Mem) :=
  (ob M 12 x0).bind fun _ => (f_X12_ends M x0).bind fun z1 =>
  some z1
set_option maxRecDepth 20000 in
theorem J_X12_endsLine_22 {l : Launch} {G : Gv} {lim : Nat × Nat} (M : Mem) (x0 : Nat)   : Sim l G Y_X12_endsLine lim (f_X12_endsLine_J22 M x0) (fun z => some (none, z)) 22 [some (.inr (.inr x0))] [] M := by
  unfold f_X12_endsLine_J22
  refine s_run (b := [(.aload_n 0, 1)]) 23 [some (.inr (.inr x0))] [.inr (.inr x0)] (by decide +kernel) rfl ?_
  refine s_cV (Z := Y_X12_ends) (c := 12) (vs := []) (st := []) (rO := fun _ => none) (mO := fun z => z) zk_X12_ends zi_X12_ends q1504 rfl ⟨by decide, by decide⟩ ⟨rfl, rfl⟩ rfl rfl (Nat.le_of_ble_eq_true rfl) (by decide +kernel) (fun z hz => c_X12_ends hz) (fun z1 => ?_)
  change Sim l G Y_X12_endsLine lim _ _ 26 [some (.inr (.inr x0))] [] z1
  exact s_vret (by decide +kernel) rfl
def f_X12_endsLine (M : Mem) (x0 : Nat) : Option (Mem) :=
  (gI M 12 x0 8).bind fun v1 =>
  (if v1 = 0 then
    (gI M 12 x0 5).bind fun v3 =>
    (if v3 = (2 : Int32) then
      (ob M 12 x0).bind fun _ => (f_X12_advance M x0).bind fun z5 =>
      some z5
    else
      f_X12_endsLine_J22 M x0 )
  else
    f_X12_endsLine_J22 M x0 )
set_option maxRecDepth 20000 in
theorem S_X12_endsLine {l : Launch} {G : Gv} {lim : Nat × Nat} (M : Mem) (x0 : Nat) : Sim l G Y_X12_endsLine lim (f_X12_endsLine M x0) (fun z => some (none, z)) 0 [some (.inr (.inr x0))] [] M := by
  unfold f_X12_endsLine
  refine s_run (b := [(.aload_n 0, 1)]) 1 [some (.inr (.inr x0))] [.inr (.inr x0)] (by decide +kernel) rfl ?_
  refine s_gI fl_12_102 rfl (by decide +kernel) (fun v1 => ?_)
  refine s_if_ne (tgt := 22) (off := 18) (by decide +kernel) (by decide) (fun h2 => ?_) (fun h2 => ?_)
  · skip
    refine s_run (b := [(.aload_n 0, 1)]) 8 [some (.inr (.inr x0))] [.inr (.inr x0)] (by decide +kernel) rfl ?_
    refine s_gI fl_12_78 rfl (by decide +kernel) (fun v3 => ?_)
    refine s_run (b := [(.iconst 2, 1)]) 12 [some (.inr (.inr x0))] [.inl (2 : Int32), .inl v3] (by decide +kernel) rfl ?_
    refine s_ic_ne (tgt := 22) (off := 10) (by decide +kernel) (by decide) (fun h4 => ?_) (fun h4 => ?_)
    · skip
      refine s_run (b := [(.aload_n 0, 1)]) 16 [some (.inr (.inr x0))] [.inr (.inr x0)] (by decide +kernel) rfl ?_
      refine s_cV (Z := Y_X12_advance) (c := 12) (vs := []) (st := []) (rO := fun _ => none) (mO := fun z => z) zk_X12_advance zi_X12_advance q1470 rfl ⟨by decide, by decide⟩ ⟨rfl, rfl⟩ rfl rfl (Nat.le_of_ble_eq_true rfl) (by decide +kernel) (fun z hz => c_X12_advance hz) (fun z5 => ?_)
      change Sim l G Y_X12_endsLine lim _ _ 19 [some (.inr (.inr x0))] [] z5
      refine s_run (b := [(.goto 7, 3)]) 26 [some (.inr (.inr x0))] [] (by decide +kernel) rfl ?_
      exact s_vret (by decide +kernel) rfl
    · skip
      exact s_lsub (ls' := [some (.inr (.inr x0))]) ⟨rfl, trivial⟩ (J_X12_endsLine_22 M x0 )
  · skip
    exact s_lsub (ls' := [some (.inr (.inr x0))]) ⟨rfl, trivial⟩ (J_X12_endsLine_22 M x0 )
set_option maxRecDepth 20000 in
theorem c_X12_endsLine {l : Launch} {G : Gv} {M : Mem} {x0 : Nat} {z : Mem} (h : f_X12_endsLine M x0 = some z) : MetS l G Y_X12_endsLine [.inr (.inr x0)] M none z :=
  met_of (ls0 := [some (.inr (.inr x0))]) (by decide) rfl (lv_in (m := 0) rfl) (sl_le (Nat.le_of_ble_eq_true rfl)) (by rw [h]; rfl) (Or.inl ⟨rfl, rfl⟩) (S_X12_endsLine M x0)
def f_X12_numbered_J44 (M : Mem) (x0 : Nat) (x1 : Int32) (x2 : Int32) (x3 : Int32)  : Option (Int32 × Mem) :=
  (ob M 12 x0).bind fun _ => (f_X12_advance M x0).bind fun z1 =>
  (f_X12_isIn z1 x3 x1 x2).bind fun v2 =>
  (if v2 = 0 then
    some (x1, z1)
  else
    some (x3, z1))
set_option maxRecDepth 20000 in
theorem J_X12_numbered_44 {l : Launch} {G : Gv} {lim : Nat × Nat} (M : Mem) (x0 : Nat) (x1 : Int32) (x2 : Int32) (x3 : Int32)   : Sim l G Y_X12_numbered lim (f_X12_numbered_J44 M x0 x1 x2 x3) (fun z => some (some (.int z.1), z.2)) 44 [some (.inr (.inr x0)), some (.inl x1), some (.inl x2), some (.inl x3)] [] M := by
  unfold f_X12_numbered_J44
  refine s_run (b := [(.aload_n 0, 1)]) 45 [some (.inr (.inr x0)), some (.inl x1), some (.inl x2), some (.inl x3)] [.inr (.inr x0)] (by decide +kernel) rfl ?_
  refine s_cV (Z := Y_X12_advance) (c := 12) (vs := []) (st := []) (rO := fun _ => none) (mO := fun z => z) zk_X12_advance zi_X12_advance q1470 rfl ⟨by decide, by decide⟩ ⟨rfl, rfl⟩ rfl rfl (Nat.le_of_ble_eq_true rfl) (by decide +kernel) (fun z hz => c_X12_advance hz) (fun z1 => ?_)
  change Sim l G Y_X12_numbered lim _ _ 48 [some (.inr (.inr x0)), some (.inl x1), some (.inl x2), some (.inl x3)] [] z1
  refine s_run (b := [(.iload_n 3, 1), (.iload_n 1, 1), (.iload_n 2, 1)]) 51 [some (.inr (.inr x0)), some (.inl x1), some (.inl x2), some (.inl x3)] [.inl x2, .inl x1, .inl x3] (by decide +kernel) rfl ?_
  refine s_cS (Z := Y_X12_isIn) (vs := [.inl x3, .inl x1, .inl x2]) (st := []) (rO := fun z => some (.inl z)) (mO := fun _ => z1) zk_X12_isIn q1464 q1463 ⟨by decide, by decide⟩ ⟨rfl, rfl⟩ rfl rfl (Nat.le_of_ble_eq_true rfl) (by decide +kernel) (fun z hz => c_X12_isIn hz) (fun v2 => ?_)
  change Sim l G Y_X12_numbered lim _ _ 54 [some (.inr (.inr x0)), some (.inl x1), some (.inl x2), some (.inl x3)] [.inl v2] z1
  refine s_if_eq (tgt := 61) (off := 7) (by decide +kernel) (by decide) (fun h3 => ?_) (fun h3 => ?_)
  · skip
    refine s_run (b := [(.iload_n 1, 1)]) 62 [some (.inr (.inr x0)), some (.inl x1), some (.inl x2), some (.inl x3)] [.inl x1] (by decide +kernel) rfl ?_
    exact s_iret (by decide +kernel) rfl
  · skip
    refine s_run (b := [(.iload_n 3, 1), (.goto 4, 3)]) 62 [some (.inr (.inr x0)), some (.inl x1), some (.inl x2), some (.inl x3)] [.inl x3] (by decide +kernel) rfl ?_
    exact s_iret (by decide +kernel) rfl
def f_X12_numbered_J15 (M : Mem) (x0 : Nat) (x1 : Int32)  : Option (Int32 × Mem) :=
  (ob M 12 x0).bind fun _ => (f_X12_ends M x0).bind fun z1 =>
  some (x1, z1)
set_option maxRecDepth 20000 in
theorem J_X12_numbered_15 {l : Launch} {G : Gv} {lim : Nat × Nat} (M : Mem) (x0 : Nat) (x1 : Int32)   : Sim l G Y_X12_numbered lim (f_X12_numbered_J15 M x0 x1) (fun z => some (some (.int z.1), z.2)) 15 [some (.inr (.inr x0)), some (.inl x1), none, none] [] M := by
  unfold f_X12_numbered_J15
  refine s_run (b := [(.aload_n 0, 1)]) 16 [some (.inr (.inr x0)), some (.inl x1), none, none] [.inr (.inr x0)] (by decide +kernel) rfl ?_
  refine s_cV (Z := Y_X12_ends) (c := 12) (vs := []) (st := []) (rO := fun _ => none) (mO := fun z => z) zk_X12_ends zi_X12_ends q1504 rfl ⟨by decide, by decide⟩ ⟨rfl, rfl⟩ rfl rfl (Nat.le_of_ble_eq_true rfl) (by decide +kernel) (fun z hz => c_X12_ends hz) (fun z1 => ?_)
  change Sim l G Y_X12_numbered lim _ _ 19 [some (.inr (.inr x0)), some (.inl x1), none, none] [] z1
  refine s_run (b := [(.iload_n 1, 1)]) 20 [some (.inr (.inr x0)), some (.inl x1), none, none] [.inl x1] (by decide +kernel) rfl ?_
  exact s_iret (by decide +kernel) rfl
def f_X12_numbered (M : Mem) (x0 : Nat) (x1 : Int32) (x2 : Int32) : Option (Int32 × Mem) :=
  (gI M 12 x0 8).bind fun v1 =>
  (if v1 = 0 then
    (gI M 12 x0 5).bind fun v3 =>
    (if v3 = (1 : Int32) then
      (gI M 12 x0 6).bind fun v5 =>
      (f_X12_isIn M v5 x1 x2).bind fun v6 =>
      (if v6 = 0 then
        (gI M 12 x0 4).bind fun v8 =>
        (ob M 12 x0).bind fun _ => (f_X12_also M x0 (2 : Int32) v8).bind fun z9 =>
        f_X12_numbered_J44 z9 x0 x1 x2 v5 
      else
        f_X12_numbered_J44 M x0 x1 x2 v5 )
    else
      f_X12_numbered_J15 M x0 x1 )
  else
    f_X12_numbered_J15 M x0 x1 )
set_option maxRecDepth 20000 in
theorem S_X12_numbered {l : Launch} {G : Gv} {lim : Nat × Nat} (M : Mem) (x0 : Nat) (x1 : Int32) (x2 : Int32) : Sim l G Y_X12_numbered lim (f_X12_numbered M x0 x1 x2) (fun z => some (some (.int z.1), z.2)) 0 [some (.inr (.inr x0)), some (.inl x1), some (.inl x2), none] [] M := by
  unfold f_X12_numbered
  refine s_run (b := [(.aload_n 0, 1)]) 1 [some (.inr (.inr x0)), some (.inl x1), some (.inl x2), none] [.inr (.inr x0)] (by decide +kernel) rfl ?_
  refine s_gI fl_12_102 rfl (by decide +kernel) (fun v1 => ?_)
  refine s_if_ne (tgt := 15) (off := 11) (by decide +kernel) (by decide) (fun h2 => ?_) (fun h2 => ?_)
  · skip
    refine s_run (b := [(.aload_n 0, 1)]) 8 [some (.inr (.inr x0)), some (.inl x1), some (.inl x2), none] [.inr (.inr x0)] (by decide +kernel) rfl ?_
    refine s_gI fl_12_78 rfl (by decide +kernel) (fun v3 => ?_)
    refine s_run (b := [(.iconst 1, 1)]) 12 [some (.inr (.inr x0)), some (.inl x1), some (.inl x2), none] [.inl (1 : Int32), .inl v3] (by decide +kernel) rfl ?_
    refine s_ic_eq (tgt := 21) (off := 9) (by decide +kernel) (by decide) (fun h4 => ?_) (fun h4 => ?_)
    · skip
      refine s_run (b := [(.aload_n 0, 1)]) 22 [some (.inr (.inr x0)), some (.inl x1), some (.inl x2), none] [.inr (.inr x0)] (by decide +kernel) rfl ?_
      refine s_gI fl_12_99 rfl (by decide +kernel) (fun v5 => ?_)
      refine s_run (b := [(.istore_n 3, 1), (.iload_n 3, 1), (.iload_n 1, 1), (.iload_n 2, 1)]) 29 [some (.inr (.inr x0)), some (.inl x1), some (.inl x2), some (.inl v5)] [.inl x2, .inl x1, .inl v5] (by decide +kernel) rfl ?_
      refine s_cS (Z := Y_X12_isIn) (vs := [.inl v5, .inl x1, .inl x2]) (st := []) (rO := fun z => some (.inl z)) (mO := fun _ => M) zk_X12_isIn q1464 q1463 ⟨by decide, by decide⟩ ⟨rfl, rfl⟩ rfl rfl (Nat.le_of_ble_eq_true rfl) (by decide +kernel) (fun z hz => c_X12_isIn hz) (fun v6 => ?_)
      change Sim l G Y_X12_numbered lim _ _ 32 [some (.inr (.inr x0)), some (.inl x1), some (.inl x2), some (.inl v5)] [.inl v6] M
      refine s_if_ne (tgt := 44) (off := 12) (by decide +kernel) (by decide) (fun h7 => ?_) (fun h7 => ?_)
      · skip
        refine s_run (b := [(.aload_n 0, 1), (.iconst 2, 1), (.aload_n 0, 1)]) 38 [some (.inr (.inr x0)), some (.inl x1), some (.inl x2), some (.inl v5)] [.inr (.inr x0), .inl (2 : Int32), .inr (.inr x0)] (by decide +kernel) rfl ?_
        refine s_gI fl_12_75 rfl (by decide +kernel) (fun v8 => ?_)
        refine s_cV (Z := Y_X12_also) (c := 12) (vs := [.inl (2 : Int32), .inl v8]) (st := []) (rO := fun _ => none) (mO := fun z => z) zk_X12_also zi_X12_also q1512 rfl ⟨by decide, by decide⟩ ⟨rfl, rfl⟩ rfl rfl (Nat.le_of_ble_eq_true rfl) (by decide +kernel) (fun z hz => c_X12_also hz) (fun z9 => ?_)
        change Sim l G Y_X12_numbered lim _ _ 44 [some (.inr (.inr x0)), some (.inl x1), some (.inl x2), some (.inl v5)] [] z9
        exact s_lsub (ls' := [some (.inr (.inr x0)), some (.inl x1), some (.inl x2), some (.inl v5)]) ⟨rfl, ⟨rfl, ⟨rfl, ⟨rfl, trivial⟩⟩⟩⟩ (J_X12_numbered_44 z9 x0 x1 x2 v5 )
      · skip
        exact s_lsub (ls' := [some (.inr (.inr x0)), some (.inl x1), some (.inl x2), some (.inl v5)]) ⟨rfl, ⟨rfl, ⟨rfl, ⟨rfl, trivial⟩⟩⟩⟩ (J_X12_numbered_44 M x0 x1 x2 v5 )
    · skip
      exact s_lsub (ls' := [some (.inr (.inr x0)), some (.inl x1), none, none]) ⟨rfl, ⟨rfl, trivial⟩⟩ (J_X12_numbered_15 M x0 x1 )
  · skip
    exact s_lsub (ls' := [some (.inr (.inr x0)), some (.inl x1), none, none]) ⟨rfl, ⟨rfl, trivial⟩⟩ (J_X12_numbered_15 M x0 x1 )
set_option maxRecDepth 20000 in
theorem c_X12_numbered {l : Launch} {G : Gv} {M : Mem} {x0 : Nat} {x1 : Int32} {x2 : Int32} {z : Int32 × Mem} (h : f_X12_numbered M x0 x1 x2 = some z) : MetS l G Y_X12_numbered [.inr (.inr x0), .inl x1, .inl x2] M (some (.int z.1)) z.2 :=
  met_of (ls0 := [some (.inr (.inr x0)), some (.inl x1), some (.inl x2), none]) (by decide) rfl (lv_in (m := 1) rfl) (sl_le (Nat.le_of_ble_eq_true rfl)) (by rw [h]; rfl) (Or.inl ⟨rfl, rfl⟩) (S_X12_numbered M x0 x1 x2)
def f_X12_takes_J27 (M : Mem) (x0 : Nat)  : Option (Int32 × Mem) :=
  (ob M 12 x0).bind fun _ => (f_X12_ends M x0).bind fun z1 =>
  some ((0 : Int32), z1)
set_option maxRecDepth 20000 in
theorem J_X12_takes_27 {l : Launch} {G : Gv} {lim : Nat × Nat} (M : Mem) (x0 : Nat)   : Sim l G Y_X12_takes lim (f_X12_takes_J27 M x0) (fun z => some (some (.int z.1), z.2)) 27 [some (.inr (.inr x0)), none, none, none] [] M := by
  unfold f_X12_takes_J27
  refine s_run (b := [(.aload_n 0, 1)]) 28 [some (.inr (.inr x0)), none, none, none] [.inr (.inr x0)] (by decide +kernel) rfl ?_
  refine s_cV (Z := Y_X12_ends) (c := 12) (vs := []) (st := []) (rO := fun _ => none) (mO := fun z => z) zk_X12_ends zi_X12_ends q1504 rfl ⟨by decide, by decide⟩ ⟨rfl, rfl⟩ rfl rfl (Nat.le_of_ble_eq_true rfl) (by decide +kernel) (fun z hz => c_X12_ends hz) (fun z1 => ?_)
  change Sim l G Y_X12_takes lim _ _ 31 [some (.inr (.inr x0)), none, none, none] [] z1
  refine s_run (b := [(.iconst 0, 1)]) 32 [some (.inr (.inr x0)), none, none, none] [.inl (0 : Int32)] (by decide +kernel) rfl ?_
  exact s_iret (by decide +kernel) rfl
def f_X12_takes (M : Mem) (x0 : Nat) (x1 : Int32) (x2 : Int32) : Option (Int32 × Mem) :=
  (gI M 12 x0 8).bind fun v1 =>
  (if v1 = 0 then
    (gI M 12 x0 5).bind fun v3 =>
    (if v3 = (3 : Int32) then
      (gI M 12 x0 7).bind fun v5 =>
      (f_X12_isIn M v5 x1 x2).bind fun v6 =>
      (if v6 = 0 then
        f_X12_takes_J27 M x0 
      else
        (gI M 12 x0 7).bind fun v8 =>
        (ob M 12 x0).bind fun _ => (f_X12_advance M x0).bind fun z9 =>
        some (v8, z9))
    else
      f_X12_takes_J27 M x0 )
  else
    f_X12_takes_J27 M x0 )
set_option maxRecDepth 20000 in
theorem S_X12_takes {l : Launch} {G : Gv} {lim : Nat × Nat} (M : Mem) (x0 : Nat) (x1 : Int32) (x2 : Int32) : Sim l G Y_X12_takes lim (f_X12_takes M x0 x1 x2) (fun z => some (some (.int z.1), z.2)) 0 [some (.inr (.inr x0)), some (.inl x1), some (.inl x2), none] [] M := by
  unfold f_X12_takes
  refine s_run (b := [(.aload_n 0, 1)]) 1 [some (.inr (.inr x0)), some (.inl x1), some (.inl x2), none] [.inr (.inr x0)] (by decide +kernel) rfl ?_
  refine s_gI fl_12_102 rfl (by decide +kernel) (fun v1 => ?_)
  refine s_if_ne (tgt := 27) (off := 23) (by decide +kernel) (by decide) (fun h2 => ?_) (fun h2 => ?_)
  · skip
    refine s_run (b := [(.aload_n 0, 1)]) 8 [some (.inr (.inr x0)), some (.inl x1), some (.inl x2), none] [.inr (.inr x0)] (by decide +kernel) rfl ?_
    refine s_gI fl_12_78 rfl (by decide +kernel) (fun v3 => ?_)
    refine s_run (b := [(.iconst 3, 1)]) 12 [some (.inr (.inr x0)), some (.inl x1), some (.inl x2), none] [.inl (3 : Int32), .inl v3] (by decide +kernel) rfl ?_
    refine s_ic_ne (tgt := 27) (off := 15) (by decide +kernel) (by decide) (fun h4 => ?_) (fun h4 => ?_)
    · skip
      refine s_run (b := [(.aload_n 0, 1)]) 16 [some (.inr (.inr x0)), some (.inl x1), some (.inl x2), none] [.inr (.inr x0)] (by decide +kernel) rfl ?_
      refine s_gI fl_12_93 rfl (by decide +kernel) (fun v5 => ?_)
      refine s_run (b := [(.iload_n 1, 1), (.iload_n 2, 1)]) 21 [some (.inr (.inr x0)), some (.inl x1), some (.inl x2), none] [.inl x2, .inl x1, .inl v5] (by decide +kernel) rfl ?_
      refine s_cS (Z := Y_X12_isIn) (vs := [.inl v5, .inl x1, .inl x2]) (st := []) (rO := fun z => some (.inl z)) (mO := fun _ => M) zk_X12_isIn q1464 q1463 ⟨by decide, by decide⟩ ⟨rfl, rfl⟩ rfl rfl (Nat.le_of_ble_eq_true rfl) (by decide +kernel) (fun z hz => c_X12_isIn hz) (fun v6 => ?_)
      change Sim l G Y_X12_takes lim _ _ 24 [some (.inr (.inr x0)), some (.inl x1), some (.inl x2), none] [.inl v6] M
      refine s_if_ne (tgt := 33) (off := 9) (by decide +kernel) (by decide) (fun h7 => ?_) (fun h7 => ?_)
      · skip
        exact s_lsub (ls' := [some (.inr (.inr x0)), none, none, none]) ⟨rfl, trivial⟩ (J_X12_takes_27 M x0 )
      · skip
        refine s_run (b := [(.aload_n 0, 1)]) 34 [some (.inr (.inr x0)), some (.inl x1), some (.inl x2), none] [.inr (.inr x0)] (by decide +kernel) rfl ?_
        refine s_gI fl_12_93 rfl (by decide +kernel) (fun v8 => ?_)
        refine s_run (b := [(.istore_n 3, 1), (.aload_n 0, 1)]) 39 [some (.inr (.inr x0)), some (.inl x1), some (.inl x2), some (.inl v8)] [.inr (.inr x0)] (by decide +kernel) rfl ?_
        refine s_cV (Z := Y_X12_advance) (c := 12) (vs := []) (st := []) (rO := fun _ => none) (mO := fun z => z) zk_X12_advance zi_X12_advance q1470 rfl ⟨by decide, by decide⟩ ⟨rfl, rfl⟩ rfl rfl (Nat.le_of_ble_eq_true rfl) (by decide +kernel) (fun z hz => c_X12_advance hz) (fun z9 => ?_)
        change Sim l G Y_X12_takes lim _ _ 42 [some (.inr (.inr x0)), some (.inl x1), some (.inl x2), some (.inl v8)] [] z9
        refine s_run (b := [(.iload_n 3, 1)]) 43 [some (.inr (.inr x0)), some (.inl x1), some (.inl x2), some (.inl v8)] [.inl v8] (by decide +kernel) rfl ?_
        exact s_iret (by decide +kernel) rfl
    · skip
      exact s_lsub (ls' := [some (.inr (.inr x0)), none, none, none]) ⟨rfl, trivial⟩ (J_X12_takes_27 M x0 )
  · skip
    exact s_lsub (ls' := [some (.inr (.inr x0)), none, none, none]) ⟨rfl, trivial⟩ (J_X12_takes_27 M x0 )
set_option maxRecDepth 20000 in
theorem c_X12_takes {l : Launch} {G : Gv} {M : Mem} {x0 : Nat} {x1 : Int32} {x2 : Int32} {z : Int32 × Mem} (h : f_X12_takes M x0 x1 x2 = some z) : MetS l G Y_X12_takes [.inr (.inr x0), .inl x1, .inl x2] M (some (.int z.1)) z.2 :=
  met_of (ls0 := [some (.inr (.inr x0)), some (.inl x1), some (.inl x2), none]) (by decide) rfl (lv_in (m := 1) rfl) (sl_le (Nat.le_of_ble_eq_true rfl)) (by rw [h]; rfl) (Or.inl ⟨rfl, rfl⟩) (S_X12_takes M x0 x1 x2)
def f_X12_dayLine_J111 (M : Mem) (x0 : Nat)  : Option (Mem) :=
  (ob M 12 x0).bind fun _ => (f_X12_endsLine M x0).bind fun z1 =>
  some z1
set_option maxRecDepth 20000 in
theorem J_X12_dayLine_111 {l : Launch} {G : Gv} {lim : Nat × Nat} (M : Mem) (x0 : Nat)   : Sim l G Y_X12_dayLine lim (f_X12_dayLine_J111 M x0) (fun z => some (none, z)) 111 [some (.inr (.inr x0)), none, none, none] [] M := by
  unfold f_X12_dayLine_J111
  refine s_run (b := [(.aload_n 0, 1)]) 112 [some (.inr (.inr x0)), none, none, none] [.inr (.inr x0)] (by decide +kernel) rfl ?_
  refine s_cV (Z := Y_X12_endsLine) (c := 12) (vs := []) (st := []) (rO := fun _ => none) (mO := fun z => z) zk_X12_endsLine zi_X12_endsLine q1524 rfl ⟨by decide, by decide⟩ ⟨rfl, rfl⟩ rfl rfl (Nat.le_of_ble_eq_true rfl) (by decide +kernel) (fun z hz => c_X12_endsLine hz) (fun z1 => ?_)
  change Sim l G Y_X12_dayLine lim _ _ 115 [some (.inr (.inr x0)), none, none, none] [] z1
  exact s_vret (by decide +kernel) rfl
def f_X12_dayLine_J54 (M : Mem) (x0 : Nat) (x2 : Int32) (y0 : Nat) (y1 : Int32) (y2 : Int32) : Option (Mem) :=
  (ob M 12 y0).bind fun _ => (f_X12_numbered M y0 y1 y2).bind fun z1 =>
  (gR z1.2 12 x0 10).bind fun v2 =>
  (aI z1.2 0 v2 (0 : Int32)).bind fun v3 =>
  (if (40 : Int32) ≤ v3 then
    f_X12_dayLine_J111 z1.2 x0 
  else
    (gR z1.2 12 x0 10).bind fun v5 =>
    (gR z1.2 12 x0 10).bind fun v6 =>
    (aI z1.2 0 v6 (0 : Int32)).bind fun v7 =>
    (sI z1.2 0 v5 ((1 : Int32) + ((2 : Int32) * v7)) x2).bind fun M8 =>
    (gR M8 12 x0 10).bind fun v9 =>
    (gR M8 12 x0 10).bind fun v10 =>
    (aI M8 0 v10 (0 : Int32)).bind fun v11 =>
    (sI M8 0 v9 ((2 : Int32) + ((2 : Int32) * v11)) z1.1).bind fun M12 =>
    (gR M12 12 x0 10).bind fun v13 =>
    (aI M12 0 v13 (0 : Int32)).bind fun v14 =>
    (sI M12 0 v13 (0 : Int32) (v14 + (1 : Int32))).bind fun M15 =>
    f_X12_dayLine_J111 M15 x0 )
set_option maxRecDepth 20000 in
theorem J_X12_dayLine_54 {l : Launch} {G : Gv} {lim : Nat × Nat} (M : Mem) (x0 : Nat) (x2 : Int32) (y0 : Nat) (y1 : Int32) (y2 : Int32)  : Sim l G Y_X12_dayLine lim (f_X12_dayLine_J54 M x0 x2 y0 y1 y2) (fun z => some (none, z)) 54 [some (.inr (.inr x0)), none, some (.inl x2), none] [.inl y2, .inl y1, .inr (.inr y0)] M := by
  unfold f_X12_dayLine_J54
  refine s_cV (Z := Y_X12_numbered) (c := 12) (vs := [.inl y1, .inl y2]) (st := []) (rO := fun z => some (.inl z.1)) (mO := fun z => z.2) zk_X12_numbered zi_X12_numbered q1516 rfl ⟨by decide, by decide⟩ ⟨rfl, rfl⟩ rfl rfl (Nat.le_of_ble_eq_true rfl) (by decide +kernel) (fun z hz => c_X12_numbered hz) (fun z1 => ?_)
  change Sim l G Y_X12_dayLine lim _ _ 57 [some (.inr (.inr x0)), none, some (.inl x2), none] [.inl z1.1] z1.2
  refine s_run (b := [(.istore_n 3, 1), (.aload_n 0, 1)]) 59 [some (.inr (.inr x0)), none, some (.inl x2), some (.inl z1.1)] [.inr (.inr x0)] (by decide +kernel) rfl ?_
  refine s_gR fl_12_17 rfl (by decide +kernel) (fun v2 => ?_)
  refine s_run (b := [(.iconst 0, 1)]) 63 [some (.inr (.inr x0)), none, some (.inl x2), some (.inl z1.1)] [.inl (0 : Int32), .inr (.inr v2)] (by decide +kernel) rfl ?_
  refine s_ia (by decide +kernel) (fun v3 => ?_)
  refine s_run (b := [(.bipush 40, 2)]) 66 [some (.inr (.inr x0)), none, some (.inl x2), some (.inl z1.1)] [.inl (40 : Int32), .inl v3] (by decide +kernel) rfl ?_
  refine s_ic_ge (tgt := 111) (off := 45) (by decide +kernel) (by decide) (fun h4 => ?_) (fun h4 => ?_)
  · skip
    exact s_lsub (ls' := [some (.inr (.inr x0)), none, none, none]) ⟨rfl, trivial⟩ (J_X12_dayLine_111 z1.2 x0 )
  · skip
    refine s_run (b := [(.aload_n 0, 1)]) 70 [some (.inr (.inr x0)), none, some (.inl x2), some (.inl z1.1)] [.inr (.inr x0)] (by decide +kernel) rfl ?_
    refine s_gR fl_12_17 rfl (by decide +kernel) (fun v5 => ?_)
    refine s_run (b := [(.iconst 1, 1), (.iconst 2, 1), (.aload_n 0, 1)]) 76 [some (.inr (.inr x0)), none, some (.inl x2), some (.inl z1.1)] [.inr (.inr x0), .inl (2 : Int32), .inl (1 : Int32), .inr (.inr v5)] (by decide +kernel) rfl ?_
    refine s_gR fl_12_17 rfl (by decide +kernel) (fun v6 => ?_)
    refine s_run (b := [(.iconst 0, 1)]) 80 [some (.inr (.inr x0)), none, some (.inl x2), some (.inl z1.1)] [.inl (0 : Int32), .inr (.inr v6), .inl (2 : Int32), .inl (1 : Int32), .inr (.inr v5)] (by decide +kernel) rfl ?_
    refine s_ia (by decide +kernel) (fun v7 => ?_)
    refine s_run (b := [(.imul, 1), (.iadd, 1), (.iload_n 2, 1)]) 84 [some (.inr (.inr x0)), none, some (.inl x2), some (.inl z1.1)] [.inl x2, .inl ((1 : Int32) + ((2 : Int32) * v7)), .inr (.inr v5)] (by decide +kernel) rfl ?_
    refine s_is (by decide +kernel) (fun M8 => ?_)
    refine s_run (b := [(.aload_n 0, 1)]) 86 [some (.inr (.inr x0)), none, some (.inl x2), some (.inl z1.1)] [.inr (.inr x0)] (by decide +kernel) rfl ?_
    refine s_gR fl_12_17 rfl (by decide +kernel) (fun v9 => ?_)
    refine s_run (b := [(.iconst 2, 1), (.iconst 2, 1), (.aload_n 0, 1)]) 92 [some (.inr (.inr x0)), none, some (.inl x2), some (.inl z1.1)] [.inr (.inr x0), .inl (2 : Int32), .inl (2 : Int32), .inr (.inr v9)] (by decide +kernel) rfl ?_
    refine s_gR fl_12_17 rfl (by decide +kernel) (fun v10 => ?_)
    refine s_run (b := [(.iconst 0, 1)]) 96 [some (.inr (.inr x0)), none, some (.inl x2), some (.inl z1.1)] [.inl (0 : Int32), .inr (.inr v10), .inl (2 : Int32), .inl (2 : Int32), .inr (.inr v9)] (by decide +kernel) rfl ?_
    refine s_ia (by decide +kernel) (fun v11 => ?_)
    refine s_run (b := [(.imul, 1), (.iadd, 1), (.iload_n 3, 1)]) 100 [some (.inr (.inr x0)), none, some (.inl x2), some (.inl z1.1)] [.inl z1.1, .inl ((2 : Int32) + ((2 : Int32) * v11)), .inr (.inr v9)] (by decide +kernel) rfl ?_
    refine s_is (by decide +kernel) (fun M12 => ?_)
    refine s_run (b := [(.aload_n 0, 1)]) 102 [some (.inr (.inr x0)), none, some (.inl x2), some (.inl z1.1)] [.inr (.inr x0)] (by decide +kernel) rfl ?_
    refine s_gR fl_12_17 rfl (by decide +kernel) (fun v13 => ?_)
    refine s_run (b := [(.iconst 0, 1), (.dup2, 1)]) 107 [some (.inr (.inr x0)), none, some (.inl x2), some (.inl z1.1)] [.inl (0 : Int32), .inr (.inr v13), .inl (0 : Int32), .inr (.inr v13)] (by decide +kernel) rfl ?_
    refine s_ia (by decide +kernel) (fun v14 => ?_)
    refine s_run (b := [(.iconst 1, 1), (.iadd, 1)]) 110 [some (.inr (.inr x0)), none, some (.inl x2), some (.inl z1.1)] [.inl (v14 + (1 : Int32)), .inl (0 : Int32), .inr (.inr v13)] (by decide +kernel) rfl ?_
    refine s_is (by decide +kernel) (fun M15 => ?_)
    exact s_lsub (ls' := [some (.inr (.inr x0)), none, none, none]) ⟨rfl, trivial⟩ (J_X12_dayLine_111 M15 x0 )
def f_X12_dayLine_J41 (M : Mem) (x0 : Nat) (x2 : Int32)  : Option (Mem) :=
  (if x2 = 0 then
    f_X12_dayLine_J54 M x0 x2 x0 (0 : Int32) (9 : Int32)
  else
    f_X12_dayLine_J54 M x0 x2 x0 (0 : Int32) (7 : Int32))
set_option maxRecDepth 20000 in
theorem J_X12_dayLine_41 {l : Launch} {G : Gv} {lim : Nat × Nat} (M : Mem) (x0 : Nat) (x2 : Int32)   : Sim l G Y_X12_dayLine lim (f_X12_dayLine_J41 M x0 x2) (fun z => some (none, z)) 41 [some (.inr (.inr x0)), none, some (.inl x2), none] [] M := by
  unfold f_X12_dayLine_J41
  refine s_run (b := [(.aload_n 0, 1), (.iconst 0, 1), (.iload_n 2, 1)]) 44 [some (.inr (.inr x0)), none, some (.inl x2), none] [.inl x2, .inl (0 : Int32), .inr (.inr x0)] (by decide +kernel) rfl ?_
  refine s_if_ne (tgt := 52) (off := 8) (by decide +kernel) (by decide) (fun h1 => ?_) (fun h1 => ?_)
  · skip
    refine s_run (b := [(.bipush 9, 2), (.goto 5, 3)]) 54 [some (.inr (.inr x0)), none, some (.inl x2), none] [.inl (9 : Int32), .inl (0 : Int32), .inr (.inr x0)] (by decide +kernel) rfl ?_
    exact s_lsub (ls' := [some (.inr (.inr x0)), none, some (.inl x2), none]) ⟨rfl, ⟨rfl, trivial⟩⟩ (J_X12_dayLine_54 M x0 x2 x0 (0 : Int32) (9 : Int32))
  · skip
    refine s_run (b := [(.bipush 7, 2)]) 54 [some (.inr (.inr x0)), none, some (.inl x2), none] [.inl (7 : Int32), .inl (0 : Int32), .inr (.inr x0)] (by decide +kernel) rfl ?_
    exact s_lsub (ls' := [some (.inr (.inr x0)), none, some (.inl x2), none]) ⟨rfl, ⟨rfl, trivial⟩⟩ (J_X12_dayLine_54 M x0 x2 x0 (0 : Int32) (7 : Int32))
def f_X12_dayLine (M : Mem) (x0 : Nat) : Option (Mem) :=
  (gI M 12 x0 4).bind fun v1 =>
  (ob M 12 x0).bind fun _ => (f_X12_takes M x0 (10 : Int32) (13 : Int32)).bind fun z2 =>
  (gI z2.2 12 x0 8).bind fun v3 =>
  (if v3 = 0 then
    (gR z2.2 12 x0 10).bind fun v5 =>
    (aI z2.2 0 v5 (0 : Int32)).bind fun v6 =>
    (if v6 < (40 : Int32) then
      f_X12_dayLine_J41 z2.2 x0 (z2.1 - (10 : Int32)) 
    else
      (ob z2.2 12 x0).bind fun _ => (f_X12_also z2.2 x0 (3 : Int32) v1).bind fun z8 =>
      f_X12_dayLine_J41 z8 x0 (z2.1 - (10 : Int32)) )
  else
    f_X12_dayLine_J41 z2.2 x0 (z2.1 - (10 : Int32)) )
set_option maxRecDepth 20000 in
theorem S_X12_dayLine {l : Launch} {G : Gv} {lim : Nat × Nat} (M : Mem) (x0 : Nat) : Sim l G Y_X12_dayLine lim (f_X12_dayLine M x0) (fun z => some (none, z)) 0 [some (.inr (.inr x0)), none, none, none] [] M := by
  unfold f_X12_dayLine
  refine s_run (b := [(.aload_n 0, 1)]) 1 [some (.inr (.inr x0)), none, none, none] [.inr (.inr x0)] (by decide +kernel) rfl ?_
  refine s_gI fl_12_75 rfl (by decide +kernel) (fun v1 => ?_)
  refine s_run (b := [(.istore_n 1, 1), (.aload_n 0, 1), (.bipush 10, 2), (.bipush 13, 2)]) 10 [some (.inr (.inr x0)), some (.inl v1), none, none] [.inl (13 : Int32), .inl (10 : Int32), .inr (.inr x0)] (by decide +kernel) rfl ?_
  refine s_cV (Z := Y_X12_takes) (c := 12) (vs := [.inl (10 : Int32), .inl (13 : Int32)]) (st := []) (rO := fun z => some (.inl z.1)) (mO := fun z => z.2) zk_X12_takes zi_X12_takes q1500 rfl ⟨by decide, by decide⟩ ⟨rfl, rfl⟩ rfl rfl (Nat.le_of_ble_eq_true rfl) (by decide +kernel) (fun z hz => c_X12_takes hz) (fun z2 => ?_)
  change Sim l G Y_X12_dayLine lim _ _ 13 [some (.inr (.inr x0)), some (.inl v1), none, none] [.inl z2.1] z2.2
  refine s_run (b := [(.bipush 10, 2), (.isub, 1), (.istore_n 2, 1), (.aload_n 0, 1)]) 18 [some (.inr (.inr x0)), some (.inl v1), some (.inl (z2.1 - (10 : Int32))), none] [.inr (.inr x0)] (by decide +kernel) rfl ?_
  refine s_gI fl_12_102 rfl (by decide +kernel) (fun v3 => ?_)
  refine s_if_ne (tgt := 41) (off := 20) (by decide +kernel) (by decide) (fun h4 => ?_) (fun h4 => ?_)
  · skip
    refine s_run (b := [(.aload_n 0, 1)]) 25 [some (.inr (.inr x0)), some (.inl v1), some (.inl (z2.1 - (10 : Int32))), none] [.inr (.inr x0)] (by decide +kernel) rfl ?_
    refine s_gR fl_12_17 rfl (by decide +kernel) (fun v5 => ?_)
    refine s_run (b := [(.iconst 0, 1)]) 29 [some (.inr (.inr x0)), some (.inl v1), some (.inl (z2.1 - (10 : Int32))), none] [.inl (0 : Int32), .inr (.inr v5)] (by decide +kernel) rfl ?_
    refine s_ia (by decide +kernel) (fun v6 => ?_)
    refine s_run (b := [(.bipush 40, 2)]) 32 [some (.inr (.inr x0)), some (.inl v1), some (.inl (z2.1 - (10 : Int32))), none] [.inl (40 : Int32), .inl v6] (by decide +kernel) rfl ?_
    refine s_ic_lt (tgt := 41) (off := 9) (by decide +kernel) (by decide) (fun h7 => ?_) (fun h7 => ?_)
    · skip
      exact s_lsub (ls' := [some (.inr (.inr x0)), none, some (.inl (z2.1 - (10 : Int32))), none]) ⟨rfl, ⟨rfl, trivial⟩⟩ (J_X12_dayLine_41 z2.2 x0 (z2.1 - (10 : Int32)) )
    · skip
      refine s_run (b := [(.aload_n 0, 1), (.iconst 3, 1), (.iload_n 1, 1)]) 38 [some (.inr (.inr x0)), some (.inl v1), some (.inl (z2.1 - (10 : Int32))), none] [.inl v1, .inl (3 : Int32), .inr (.inr x0)] (by decide +kernel) rfl ?_
      refine s_cV (Z := Y_X12_also) (c := 12) (vs := [.inl (3 : Int32), .inl v1]) (st := []) (rO := fun _ => none) (mO := fun z => z) zk_X12_also zi_X12_also q1512 rfl ⟨by decide, by decide⟩ ⟨rfl, rfl⟩ rfl rfl (Nat.le_of_ble_eq_true rfl) (by decide +kernel) (fun z hz => c_X12_also hz) (fun z8 => ?_)
      change Sim l G Y_X12_dayLine lim _ _ 41 [some (.inr (.inr x0)), some (.inl v1), some (.inl (z2.1 - (10 : Int32))), none] [] z8
      exact s_lsub (ls' := [some (.inr (.inr x0)), none, some (.inl (z2.1 - (10 : Int32))), none]) ⟨rfl, ⟨rfl, trivial⟩⟩ (J_X12_dayLine_41 z8 x0 (z2.1 - (10 : Int32)) )
  · skip
    exact s_lsub (ls' := [some (.inr (.inr x0)), none, some (.inl (z2.1 - (10 : Int32))), none]) ⟨rfl, ⟨rfl, trivial⟩⟩ (J_X12_dayLine_41 z2.2 x0 (z2.1 - (10 : Int32)) )
set_option maxRecDepth 20000 in
theorem c_X12_dayLine {l : Launch} {G : Gv} {M : Mem} {x0 : Nat} {z : Mem} (h : f_X12_dayLine M x0 = some z) : MetS l G Y_X12_dayLine [.inr (.inr x0)] M none z :=
  met_of (ls0 := [some (.inr (.inr x0)), none, none, none]) (by decide) rfl (lv_in (m := 3) rfl) (sl_le (Nat.le_of_ble_eq_true rfl)) (by rw [h]; rfl) (Or.inl ⟨rfl, rfl⟩) (S_X12_dayLine M x0)
def f_X12_logLine_J183 (M : Mem) (x0 : Nat)  : Option (Mem) :=
  (ob M 12 x0).bind fun _ => (f_X12_endsLine M x0).bind fun z1 =>
  some z1
set_option maxRecDepth 20000 in
theorem J_X12_logLine_183 {l : Launch} {G : Gv} {lim : Nat × Nat} (M : Mem) (x0 : Nat)   : Sim l G Y_X12_logLine lim (f_X12_logLine_J183 M x0) (fun z => some (none, z)) 183 [some (.inr (.inr x0)), none, none, none, none, none, none] [] M := by
  unfold f_X12_logLine_J183
  refine s_run (b := [(.aload_n 0, 1)]) 184 [some (.inr (.inr x0)), none, none, none, none, none, none] [.inr (.inr x0)] (by decide +kernel) rfl ?_
  refine s_cV (Z := Y_X12_endsLine) (c := 12) (vs := []) (st := []) (rO := fun _ => none) (mO := fun z => z) zk_X12_endsLine zi_X12_endsLine q1524 rfl ⟨by decide, by decide⟩ ⟨rfl, rfl⟩ rfl rfl (Nat.le_of_ble_eq_true rfl) (by decide +kernel) (fun z hz => c_X12_endsLine hz) (fun z1 => ?_)
  change Sim l G Y_X12_logLine lim _ _ 187 [some (.inr (.inr x0)), none, none, none, none, none, none] [] z1
  exact s_vret (by decide +kernel) rfl
def f_X12_logLine_J110 (M : Mem) (x0 : Nat) (x2 : Int32) (x3 : Int32) (x4 : Int32) (x5 : Int32)  : Option (Mem) :=
  (gR M 12 x0 10).bind fun v1 =>
  (aI M 0 v1 (0 : Int32)).bind fun v2 =>
  (if (8 : Int32) ≤ v2 then
    f_X12_logLine_J183 M x0 
  else
    (gR M 12 x0 10).bind fun v4 =>
    (aI M 0 v4 (0 : Int32)).bind fun v5 =>
    (gR M 12 x0 10).bind fun v6 =>
    (sI M 0 v6 ((1 : Int32) + ((4 : Int32) * v5)) x2).bind fun M7 =>
    (gR M7 12 x0 10).bind fun v8 =>
    (sI M7 0 v8 (((1 : Int32) + ((4 : Int32) * v5)) + (1 : Int32)) x3).bind fun M9 =>
    (gR M9 12 x0 10).bind fun v10 =>
    (sI M9 0 v10 (((1 : Int32) + ((4 : Int32) * v5)) + (2 : Int32)) x4).bind fun M11 =>
    (gR M11 12 x0 10).bind fun v12 =>
    (sI M11 0 v12 (((1 : Int32) + ((4 : Int32) * v5)) + (3 : Int32)) x5).bind fun M13 =>
    (gR M13 12 x0 10).bind fun v14 =>
    (aI M13 0 v14 (0 : Int32)).bind fun v15 =>
    (sI M13 0 v14 (0 : Int32) (v15 + (1 : Int32))).bind fun M16 =>
    f_X12_logLine_J183 M16 x0 )
set_option maxRecDepth 20000 in
theorem J_X12_logLine_110 {l : Launch} {G : Gv} {lim : Nat × Nat} (M : Mem) (x0 : Nat) (x2 : Int32) (x3 : Int32) (x4 : Int32) (x5 : Int32)   : Sim l G Y_X12_logLine lim (f_X12_logLine_J110 M x0 x2 x3 x4 x5) (fun z => some (none, z)) 110 [some (.inr (.inr x0)), none, some (.inl x2), some (.inl x3), some (.inl x4), some (.inl x5), none] [] M := by
  unfold f_X12_logLine_J110
  refine s_run (b := [(.aload_n 0, 1)]) 111 [some (.inr (.inr x0)), none, some (.inl x2), some (.inl x3), some (.inl x4), some (.inl x5), none] [.inr (.inr x0)] (by decide +kernel) rfl ?_
  refine s_gR fl_12_17 rfl (by decide +kernel) (fun v1 => ?_)
  refine s_run (b := [(.iconst 0, 1)]) 115 [some (.inr (.inr x0)), none, some (.inl x2), some (.inl x3), some (.inl x4), some (.inl x5), none] [.inl (0 : Int32), .inr (.inr v1)] (by decide +kernel) rfl ?_
  refine s_ia (by decide +kernel) (fun v2 => ?_)
  refine s_run (b := [(.bipush 8, 2)]) 118 [some (.inr (.inr x0)), none, some (.inl x2), some (.inl x3), some (.inl x4), some (.inl x5), none] [.inl (8 : Int32), .inl v2] (by decide +kernel) rfl ?_
  refine s_ic_ge (tgt := 183) (off := 65) (by decide +kernel) (by decide) (fun h3 => ?_) (fun h3 => ?_)
  · skip
    exact s_lsub (ls' := [some (.inr (.inr x0)), none, none, none, none, none, none]) ⟨rfl, trivial⟩ (J_X12_logLine_183 M x0 )
  · skip
    refine s_run (b := [(.iconst 1, 1), (.iconst 4, 1), (.aload_n 0, 1)]) 124 [some (.inr (.inr x0)), none, some (.inl x2), some (.inl x3), some (.inl x4), some (.inl x5), none] [.inr (.inr x0), .inl (4 : Int32), .inl (1 : Int32)] (by decide +kernel) rfl ?_
    refine s_gR fl_12_17 rfl (by decide +kernel) (fun v4 => ?_)
    refine s_run (b := [(.iconst 0, 1)]) 128 [some (.inr (.inr x0)), none, some (.inl x2), some (.inl x3), some (.inl x4), some (.inl x5), none] [.inl (0 : Int32), .inr (.inr v4), .inl (4 : Int32), .inl (1 : Int32)] (by decide +kernel) rfl ?_
    refine s_ia (by decide +kernel) (fun v5 => ?_)
    refine s_run (b := [(.imul, 1), (.iadd, 1), (.istore 6, 2), (.aload_n 0, 1)]) 134 [some (.inr (.inr x0)), none, some (.inl x2), some (.inl x3), some (.inl x4), some (.inl x5), some (.inl ((1 : Int32) + ((4 : Int32) * v5)))] [.inr (.inr x0)] (by decide +kernel) rfl ?_
    refine s_gR fl_12_17 rfl (by decide +kernel) (fun v6 => ?_)
    refine s_run (b := [(.iload 6, 2), (.iload_n 2, 1)]) 140 [some (.inr (.inr x0)), none, some (.inl x2), some (.inl x3), some (.inl x4), some (.inl x5), some (.inl ((1 : Int32) + ((4 : Int32) * v5)))] [.inl x2, .inl ((1 : Int32) + ((4 : Int32) * v5)), .inr (.inr v6)] (by decide +kernel) rfl ?_
    refine s_is (by decide +kernel) (fun M7 => ?_)
    refine s_run (b := [(.aload_n 0, 1)]) 142 [some (.inr (.inr x0)), none, some (.inl x2), some (.inl x3), some (.inl x4), some (.inl x5), some (.inl ((1 : Int32) + ((4 : Int32) * v5)))] [.inr (.inr x0)] (by decide +kernel) rfl ?_
    refine s_gR fl_12_17 rfl (by decide +kernel) (fun v8 => ?_)
    refine s_run (b := [(.iload 6, 2), (.iconst 1, 1), (.iadd, 1), (.iload_n 3, 1)]) 150 [some (.inr (.inr x0)), none, some (.inl x2), some (.inl x3), some (.inl x4), some (.inl x5), some (.inl ((1 : Int32) + ((4 : Int32) * v5)))] [.inl x3, .inl (((1 : Int32) + ((4 : Int32) * v5)) + (1 : Int32)), .inr (.inr v8)] (by decide +kernel) rfl ?_
    refine s_is (by decide +kernel) (fun M9 => ?_)
    refine s_run (b := [(.aload_n 0, 1)]) 152 [some (.inr (.inr x0)), none, some (.inl x2), some (.inl x3), some (.inl x4), some (.inl x5), some (.inl ((1 : Int32) + ((4 : Int32) * v5)))] [.inr (.inr x0)] (by decide +kernel) rfl ?_
    refine s_gR fl_12_17 rfl (by decide +kernel) (fun v10 => ?_)
    refine s_run (b := [(.iload 6, 2), (.iconst 2, 1), (.iadd, 1), (.iload 4, 2)]) 161 [some (.inr (.inr x0)), none, some (.inl x2), some (.inl x3), some (.inl x4), some (.inl x5), some (.inl ((1 : Int32) + ((4 : Int32) * v5)))] [.inl x4, .inl (((1 : Int32) + ((4 : Int32) * v5)) + (2 : Int32)), .inr (.inr v10)] (by decide +kernel) rfl ?_
    refine s_is (by decide +kernel) (fun M11 => ?_)
    refine s_run (b := [(.aload_n 0, 1)]) 163 [some (.inr (.inr x0)), none, some (.inl x2), some (.inl x3), some (.inl x4), some (.inl x5), some (.inl ((1 : Int32) + ((4 : Int32) * v5)))] [.inr (.inr x0)] (by decide +kernel) rfl ?_
    refine s_gR fl_12_17 rfl (by decide +kernel) (fun v12 => ?_)
    refine s_run (b := [(.iload 6, 2), (.iconst 3, 1), (.iadd, 1), (.iload 5, 2)]) 172 [some (.inr (.inr x0)), none, some (.inl x2), some (.inl x3), some (.inl x4), some (.inl x5), some (.inl ((1 : Int32) + ((4 : Int32) * v5)))] [.inl x5, .inl (((1 : Int32) + ((4 : Int32) * v5)) + (3 : Int32)), .inr (.inr v12)] (by decide +kernel) rfl ?_
    refine s_is (by decide +kernel) (fun M13 => ?_)
    refine s_run (b := [(.aload_n 0, 1)]) 174 [some (.inr (.inr x0)), none, some (.inl x2), some (.inl x3), some (.inl x4), some (.inl x5), some (.inl ((1 : Int32) + ((4 : Int32) * v5)))] [.inr (.inr x0)] (by decide +kernel) rfl ?_
    refine s_gR fl_12_17 rfl (by decide +kernel) (fun v14 => ?_)
    refine s_run (b := [(.iconst 0, 1), (.dup2, 1)]) 179 [some (.inr (.inr x0)), none, some (.inl x2), some (.inl x3), some (.inl x4), some (.inl x5), some (.inl ((1 : Int32) + ((4 : Int32) * v5)))] [.inl (0 : Int32), .inr (.inr v14), .inl (0 : Int32), .inr (.inr v14)] (by decide +kernel) rfl ?_
    refine s_ia (by decide +kernel) (fun v15 => ?_)
    refine s_run (b := [(.iconst 1, 1), (.iadd, 1)]) 182 [some (.inr (.inr x0)), none, some (.inl x2), some (.inl x3), some (.inl x4), some (.inl x5), some (.inl ((1 : Int32) + ((4 : Int32) * v5)))] [.inl (v15 + (1 : Int32)), .inl (0 : Int32), .inr (.inr v14)] (by decide +kernel) rfl ?_
    refine s_is (by decide +kernel) (fun M16 => ?_)
    exact s_lsub (ls' := [some (.inr (.inr x0)), none, none, none, none, none, none]) ⟨rfl, trivial⟩ (J_X12_logLine_183 M16 x0 )
def f_X12_logLine_J92 (M : Mem) (x0 : Nat) (x2 : Int32) (x3 : Int32)  : Option (Mem) :=
  (ob M 12 x0).bind fun _ => (f_X12_numbered M x0 (0 : Int32) (7 : Int32)).bind fun z1 =>
  (ob z1.2 12 x0).bind fun _ => (f_X12_numbered z1.2 x0 (1 : Int32) (12 : Int32)).bind fun z2 =>
  f_X12_logLine_J110 z2.2 x0 x2 x3 z1.1 z2.1 
set_option maxRecDepth 20000 in
theorem J_X12_logLine_92 {l : Launch} {G : Gv} {lim : Nat × Nat} (M : Mem) (x0 : Nat) (x2 : Int32) (x3 : Int32)   : Sim l G Y_X12_logLine lim (f_X12_logLine_J92 M x0 x2 x3) (fun z => some (none, z)) 92 [some (.inr (.inr x0)), none, some (.inl x2), some (.inl x3), none, none, none] [] M := by
  unfold f_X12_logLine_J92
  refine s_run (b := [(.aload_n 0, 1), (.iconst 0, 1), (.bipush 7, 2)]) 96 [some (.inr (.inr x0)), none, some (.inl x2), some (.inl x3), none, none, none] [.inl (7 : Int32), .inl (0 : Int32), .inr (.inr x0)] (by decide +kernel) rfl ?_
  refine s_cV (Z := Y_X12_numbered) (c := 12) (vs := [.inl (0 : Int32), .inl (7 : Int32)]) (st := []) (rO := fun z => some (.inl z.1)) (mO := fun z => z.2) zk_X12_numbered zi_X12_numbered q1516 rfl ⟨by decide, by decide⟩ ⟨rfl, rfl⟩ rfl rfl (Nat.le_of_ble_eq_true rfl) (by decide +kernel) (fun z hz => c_X12_numbered hz) (fun z1 => ?_)
  change Sim l G Y_X12_logLine lim _ _ 99 [some (.inr (.inr x0)), none, some (.inl x2), some (.inl x3), none, none, none] [.inl z1.1] z1.2
  refine s_run (b := [(.istore 4, 2), (.aload_n 0, 1), (.iconst 1, 1), (.bipush 12, 2)]) 105 [some (.inr (.inr x0)), none, some (.inl x2), some (.inl x3), some (.inl z1.1), none, none] [.inl (12 : Int32), .inl (1 : Int32), .inr (.inr x0)] (by decide +kernel) rfl ?_
  refine s_cV (Z := Y_X12_numbered) (c := 12) (vs := [.inl (1 : Int32), .inl (12 : Int32)]) (st := []) (rO := fun z => some (.inl z.1)) (mO := fun z => z.2) zk_X12_numbered zi_X12_numbered q1516 rfl ⟨by decide, by decide⟩ ⟨rfl, rfl⟩ rfl rfl (Nat.le_of_ble_eq_true rfl) (by decide +kernel) (fun z hz => c_X12_numbered hz) (fun z2 => ?_)
  change Sim l G Y_X12_logLine lim _ _ 108 [some (.inr (.inr x0)), none, some (.inl x2), some (.inl x3), some (.inl z1.1), none, none] [.inl z2.1] z2.2
  refine s_run (b := [(.istore 5, 2)]) 110 [some (.inr (.inr x0)), none, some (.inl x2), some (.inl x3), some (.inl z1.1), some (.inl z2.1), none] [] (by decide +kernel) rfl ?_
  exact s_lsub (ls' := [some (.inr (.inr x0)), none, some (.inl x2), some (.inl x3), some (.inl z1.1), some (.inl z2.1), none]) ⟨rfl, ⟨rfl, ⟨rfl, ⟨rfl, ⟨rfl, trivial⟩⟩⟩⟩⟩ (J_X12_logLine_110 z2.2 x0 x2 x3 z1.1 z2.1 )
def f_X12_logLine_J41 (M : Mem) (x0 : Nat) (x2 : Int32)  : Option (Mem) :=
  (ob M 12 x0).bind fun _ => (f_X12_numbered M x0 (0 : Int32) (7 : Int32)).bind fun z1 =>
  (if x2 = (1 : Int32) then
    (gI z1.2 12 x0 8).bind fun v3 =>
    (if v3 = 0 then
      (gI z1.2 12 x0 5).bind fun v5 =>
      (if v5 = (1 : Int32) then
        (gI z1.2 12 x0 6).bind fun v7 =>
        (if v7 = z1.1 then
          (gI z1.2 12 x0 4).bind fun v9 =>
          (ob z1.2 12 x0).bind fun _ => (f_X12_also z1.2 x0 (2 : Int32) v9).bind fun z10 =>
          f_X12_logLine_J92 z10 x0 x2 z1.1 
        else
          f_X12_logLine_J92 z1.2 x0 x2 z1.1 )
      else
        f_X12_logLine_J92 z1.2 x0 x2 z1.1 )
    else
      f_X12_logLine_J92 z1.2 x0 x2 z1.1 )
  else
    f_X12_logLine_J110 z1.2 x0 x2 z1.1 (-1 : Int32) (-1 : Int32) )
set_option maxRecDepth 20000 in
theorem J_X12_logLine_41 {l : Launch} {G : Gv} {lim : Nat × Nat} (M : Mem) (x0 : Nat) (x2 : Int32)   : Sim l G Y_X12_logLine lim (f_X12_logLine_J41 M x0 x2) (fun z => some (none, z)) 41 [some (.inr (.inr x0)), none, some (.inl x2), none, none, none, none] [] M := by
  unfold f_X12_logLine_J41
  refine s_run (b := [(.aload_n 0, 1), (.iconst 0, 1), (.bipush 7, 2)]) 45 [some (.inr (.inr x0)), none, some (.inl x2), none, none, none, none] [.inl (7 : Int32), .inl (0 : Int32), .inr (.inr x0)] (by decide +kernel) rfl ?_
  refine s_cV (Z := Y_X12_numbered) (c := 12) (vs := [.inl (0 : Int32), .inl (7 : Int32)]) (st := []) (rO := fun z => some (.inl z.1)) (mO := fun z => z.2) zk_X12_numbered zi_X12_numbered q1516 rfl ⟨by decide, by decide⟩ ⟨rfl, rfl⟩ rfl rfl (Nat.le_of_ble_eq_true rfl) (by decide +kernel) (fun z hz => c_X12_numbered hz) (fun z1 => ?_)
  change Sim l G Y_X12_logLine lim _ _ 48 [some (.inr (.inr x0)), none, some (.inl x2), none, none, none, none] [.inl z1.1] z1.2
  refine s_run (b := [(.istore_n 3, 1), (.iconst (-1), 1), (.istore 4, 2), (.iconst (-1), 1), (.istore 5, 2), (.iload_n 2, 1), (.iconst 1, 1)]) 57 [some (.inr (.inr x0)), none, some (.inl x2), some (.inl z1.1), some (.inl (-1 : Int32)), some (.inl (-1 : Int32)), none] [.inl (1 : Int32), .inl x2] (by decide +kernel) rfl ?_
  refine s_ic_ne (tgt := 110) (off := 53) (by decide +kernel) (by decide) (fun h2 => ?_) (fun h2 => ?_)
  · skip
    refine s_run (b := [(.aload_n 0, 1)]) 61 [some (.inr (.inr x0)), none, some (.inl x2), some (.inl z1.1), some (.inl (-1 : Int32)), some (.inl (-1 : Int32)), none] [.inr (.inr x0)] (by decide +kernel) rfl ?_
    refine s_gI fl_12_102 rfl (by decide +kernel) (fun v3 => ?_)
    refine s_if_ne (tgt := 92) (off := 28) (by decide +kernel) (by decide) (fun h4 => ?_) (fun h4 => ?_)
    · skip
      refine s_run (b := [(.aload_n 0, 1)]) 68 [some (.inr (.inr x0)), none, some (.inl x2), some (.inl z1.1), some (.inl (-1 : Int32)), some (.inl (-1 : Int32)), none] [.inr (.inr x0)] (by decide +kernel) rfl ?_
      refine s_gI fl_12_78 rfl (by decide +kernel) (fun v5 => ?_)
      refine s_run (b := [(.iconst 1, 1)]) 72 [some (.inr (.inr x0)), none, some (.inl x2), some (.inl z1.1), some (.inl (-1 : Int32)), some (.inl (-1 : Int32)), none] [.inl (1 : Int32), .inl v5] (by decide +kernel) rfl ?_
      refine s_ic_ne (tgt := 92) (off := 20) (by decide +kernel) (by decide) (fun h6 => ?_) (fun h6 => ?_)
      · skip
        refine s_run (b := [(.aload_n 0, 1)]) 76 [some (.inr (.inr x0)), none, some (.inl x2), some (.inl z1.1), some (.inl (-1 : Int32)), some (.inl (-1 : Int32)), none] [.inr (.inr x0)] (by decide +kernel) rfl ?_
        refine s_gI fl_12_99 rfl (by decide +kernel) (fun v7 => ?_)
        refine s_run (b := [(.iload_n 3, 1)]) 80 [some (.inr (.inr x0)), none, some (.inl x2), some (.inl z1.1), some (.inl (-1 : Int32)), some (.inl (-1 : Int32)), none] [.inl z1.1, .inl v7] (by decide +kernel) rfl ?_
        refine s_ic_ne (tgt := 92) (off := 12) (by decide +kernel) (by decide) (fun h8 => ?_) (fun h8 => ?_)
        · skip
          refine s_run (b := [(.aload_n 0, 1), (.iconst 2, 1), (.aload_n 0, 1)]) 86 [some (.inr (.inr x0)), none, some (.inl x2), some (.inl z1.1), some (.inl (-1 : Int32)), some (.inl (-1 : Int32)), none] [.inr (.inr x0), .inl (2 : Int32), .inr (.inr x0)] (by decide +kernel) rfl ?_
          refine s_gI fl_12_75 rfl (by decide +kernel) (fun v9 => ?_)
          refine s_cV (Z := Y_X12_also) (c := 12) (vs := [.inl (2 : Int32), .inl v9]) (st := []) (rO := fun _ => none) (mO := fun z => z) zk_X12_also zi_X12_also q1512 rfl ⟨by decide, by decide⟩ ⟨rfl, rfl⟩ rfl rfl (Nat.le_of_ble_eq_true rfl) (by decide +kernel) (fun z hz => c_X12_also hz) (fun z10 => ?_)
          change Sim l G Y_X12_logLine lim _ _ 92 [some (.inr (.inr x0)), none, some (.inl x2), some (.inl z1.1), some (.inl (-1 : Int32)), some (.inl (-1 : Int32)), none] [] z10
          exact s_lsub (ls' := [some (.inr (.inr x0)), none, some (.inl x2), some (.inl z1.1), none, none, none]) ⟨rfl, ⟨rfl, ⟨rfl, trivial⟩⟩⟩ (J_X12_logLine_92 z10 x0 x2 z1.1 )
        · skip
          exact s_lsub (ls' := [some (.inr (.inr x0)), none, some (.inl x2), some (.inl z1.1), none, none, none]) ⟨rfl, ⟨rfl, ⟨rfl, trivial⟩⟩⟩ (J_X12_logLine_92 z1.2 x0 x2 z1.1 )
      · skip
        exact s_lsub (ls' := [some (.inr (.inr x0)), none, some (.inl x2), some (.inl z1.1), none, none, none]) ⟨rfl, ⟨rfl, ⟨rfl, trivial⟩⟩⟩ (J_X12_logLine_92 z1.2 x0 x2 z1.1 )
    · skip
      exact s_lsub (ls' := [some (.inr (.inr x0)), none, some (.inl x2), some (.inl z1.1), none, none, none]) ⟨rfl, ⟨rfl, ⟨rfl, trivial⟩⟩⟩ (J_X12_logLine_92 z1.2 x0 x2 z1.1 )
  · skip
    exact s_lsub (ls' := [some (.inr (.inr x0)), none, some (.inl x2), some (.inl z1.1), some (.inl (-1 : Int32)), some (.inl (-1 : Int32)), none]) ⟨rfl, ⟨rfl, ⟨rfl, ⟨rfl, ⟨rfl, trivial⟩⟩⟩⟩⟩ (J_X12_logLine_110 z1.2 x0 x2 z1.1 (-1 : Int32) (-1 : Int32) )
def f_X12_logLine (M : Mem) (x0 : Nat) : Option (Mem) :=
  (gI M 12 x0 4).bind fun v1 =>
  (ob M 12 x0).bind fun _ => (f_X12_takes M x0 (14 : Int32) (15 : Int32)).bind fun z2 =>
  (gI z2.2 12 x0 8).bind fun v3 =>
  (if v3 = 0 then
    (gR z2.2 12 x0 10).bind fun v5 =>
    (aI z2.2 0 v5 (0 : Int32)).bind fun v6 =>
    (if v6 < (8 : Int32) then
      f_X12_logLine_J41 z2.2 x0 (z2.1 - (14 : Int32)) 
    else
      (ob z2.2 12 x0).bind fun _ => (f_X12_also z2.2 x0 (3 : Int32) v1).bind fun z8 =>
      f_X12_logLine_J41 z8 x0 (z2.1 - (14 : Int32)) )
  else
    f_X12_logLine_J41 z2.2 x0 (z2.1 - (14 : Int32)) )
set_option maxRecDepth 20000 in
theorem S_X12_logLine {l : Launch} {G : Gv} {lim : Nat × Nat} (M : Mem) (x0 : Nat) : Sim l G Y_X12_logLine lim (f_X12_logLine M x0) (fun z => some (none, z)) 0 [some (.inr (.inr x0)), none, none, none, none, none, none] [] M := by
  unfold f_X12_logLine
  refine s_run (b := [(.aload_n 0, 1)]) 1 [some (.inr (.inr x0)), none, none, none, none, none, none] [.inr (.inr x0)] (by decide +kernel) rfl ?_
  refine s_gI fl_12_75 rfl (by decide +kernel) (fun v1 => ?_)
  refine s_run (b := [(.istore_n 1, 1), (.aload_n 0, 1), (.bipush 14, 2), (.bipush 15, 2)]) 10 [some (.inr (.inr x0)), some (.inl v1), none, none, none, none, none] [.inl (15 : Int32), .inl (14 : Int32), .inr (.inr x0)] (by decide +kernel) rfl ?_
  refine s_cV (Z := Y_X12_takes) (c := 12) (vs := [.inl (14 : Int32), .inl (15 : Int32)]) (st := []) (rO := fun z => some (.inl z.1)) (mO := fun z => z.2) zk_X12_takes zi_X12_takes q1500 rfl ⟨by decide, by decide⟩ ⟨rfl, rfl⟩ rfl rfl (Nat.le_of_ble_eq_true rfl) (by decide +kernel) (fun z hz => c_X12_takes hz) (fun z2 => ?_)
  change Sim l G Y_X12_logLine lim _ _ 13 [some (.inr (.inr x0)), some (.inl v1), none, none, none, none, none] [.inl z2.1] z2.2
  refine s_run (b := [(.bipush 14, 2), (.isub, 1), (.istore_n 2, 1), (.aload_n 0, 1)]) 18 [some (.inr (.inr x0)), some (.inl v1), some (.inl (z2.1 - (14 : Int32))), none, none, none, none] [.inr (.inr x0)] (by decide +kernel) rfl ?_
  refine s_gI fl_12_102 rfl (by decide +kernel) (fun v3 => ?_)
  refine s_if_ne (tgt := 41) (off := 20) (by decide +kernel) (by decide) (fun h4 => ?_) (fun h4 => ?_)
  · skip
    refine s_run (b := [(.aload_n 0, 1)]) 25 [some (.inr (.inr x0)), some (.inl v1), some (.inl (z2.1 - (14 : Int32))), none, none, none, none] [.inr (.inr x0)] (by decide +kernel) rfl ?_
    refine s_gR fl_12_17 rfl (by decide +kernel) (fun v5 => ?_)
    refine s_run (b := [(.iconst 0, 1)]) 29 [some (.inr (.inr x0)), some (.inl v1), some (.inl (z2.1 - (14 : Int32))), none, none, none, none] [.inl (0 : Int32), .inr (.inr v5)] (by decide +kernel) rfl ?_
    refine s_ia (by decide +kernel) (fun v6 => ?_)
    refine s_run (b := [(.bipush 8, 2)]) 32 [some (.inr (.inr x0)), some (.inl v1), some (.inl (z2.1 - (14 : Int32))), none, none, none, none] [.inl (8 : Int32), .inl v6] (by decide +kernel) rfl ?_
    refine s_ic_lt (tgt := 41) (off := 9) (by decide +kernel) (by decide) (fun h7 => ?_) (fun h7 => ?_)
    · skip
      exact s_lsub (ls' := [some (.inr (.inr x0)), none, some (.inl (z2.1 - (14 : Int32))), none, none, none, none]) ⟨rfl, ⟨rfl, trivial⟩⟩ (J_X12_logLine_41 z2.2 x0 (z2.1 - (14 : Int32)) )
    · skip
      refine s_run (b := [(.aload_n 0, 1), (.iconst 3, 1), (.iload_n 1, 1)]) 38 [some (.inr (.inr x0)), some (.inl v1), some (.inl (z2.1 - (14 : Int32))), none, none, none, none] [.inl v1, .inl (3 : Int32), .inr (.inr x0)] (by decide +kernel) rfl ?_
      refine s_cV (Z := Y_X12_also) (c := 12) (vs := [.inl (3 : Int32), .inl v1]) (st := []) (rO := fun _ => none) (mO := fun z => z) zk_X12_also zi_X12_also q1512 rfl ⟨by decide, by decide⟩ ⟨rfl, rfl⟩ rfl rfl (Nat.le_of_ble_eq_true rfl) (by decide +kernel) (fun z hz => c_X12_also hz) (fun z8 => ?_)
      change Sim l G Y_X12_logLine lim _ _ 41 [some (.inr (.inr x0)), some (.inl v1), some (.inl (z2.1 - (14 : Int32))), none, none, none, none] [] z8
      exact s_lsub (ls' := [some (.inr (.inr x0)), none, some (.inl (z2.1 - (14 : Int32))), none, none, none, none]) ⟨rfl, ⟨rfl, trivial⟩⟩ (J_X12_logLine_41 z8 x0 (z2.1 - (14 : Int32)) )
  · skip
    exact s_lsub (ls' := [some (.inr (.inr x0)), none, some (.inl (z2.1 - (14 : Int32))), none, none, none, none]) ⟨rfl, ⟨rfl, trivial⟩⟩ (J_X12_logLine_41 z2.2 x0 (z2.1 - (14 : Int32)) )
set_option maxRecDepth 20000 in
theorem c_X12_logLine {l : Launch} {G : Gv} {M : Mem} {x0 : Nat} {z : Mem} (h : f_X12_logLine M x0 = some z) : MetS l G Y_X12_logLine [.inr (.inr x0)] M none z :=
  met_of (ls0 := [some (.inr (.inr x0)), none, none, none, none, none, none]) (by decide) rfl (lv_in (m := 6) rfl) (sl_le (Nat.le_of_ble_eq_true rfl)) (by rw [h]; rfl) (Or.inl ⟨rfl, rfl⟩) (S_X12_logLine M x0)
def f_X12_callLine_J52 (M : Mem) (x0 : Nat) (x2 : Int32) (x3 : Int32) (y0 : Nat) (y1 : Int32) : Option (Mem) :=
  (pI M 12 y0 9 y1).bind fun M1 =>
  (ob M1 12 x0).bind fun _ => (f_X12_numbered M1 x0 (0 : Int32) (99 : Int32)).bind fun z2 =>
  (ob z2.2 12 x0).bind fun _ => (f_X12_numbered z2.2 x0 (1 : Int32) (20 : Int32)).bind fun z3 =>
  (if x2 = 0 then
    some z3.2
  else
    (gR z3.2 12 x0 10).bind fun v5 =>
    (aI z3.2 0 v5 (1 : Int32)).bind fun v6 =>
    (gR z3.2 12 x0 10).bind fun v7 =>
    (sI z3.2 0 v7 ((45 : Int32) + ((3 : Int32) * v6)) x3).bind fun M8 =>
    (gR M8 12 x0 10).bind fun v9 =>
    (sI M8 0 v9 (((45 : Int32) + ((3 : Int32) * v6)) + (1 : Int32)) z2.1).bind fun M10 =>
    (gR M10 12 x0 10).bind fun v11 =>
    (sI M10 0 v11 (((45 : Int32) + ((3 : Int32) * v6)) + (2 : Int32)) z3.1).bind fun M12 =>
    (gR M12 12 x0 10).bind fun v13 =>
    (aI M12 0 v13 (1 : Int32)).bind fun v14 =>
    (sI M12 0 v13 (1 : Int32) (v14 + (1 : Int32))).bind fun M15 =>
    some M15)
set_option maxRecDepth 20000 in
theorem J_X12_callLine_52 {l : Launch} {G : Gv} {lim : Nat × Nat} (M : Mem) (x0 : Nat) (x2 : Int32) (x3 : Int32) (y0 : Nat) (y1 : Int32)  : Sim l G Y_X12_callLine lim (f_X12_callLine_J52 M x0 x2 x3 y0 y1) (fun z => some (none, z)) 52 [some (.inr (.inr x0)), none, some (.inl x2), some (.inl x3), none, none, none] [.inl y1, .inr (.inr y0)] M := by
  unfold f_X12_callLine_J52
  refine s_pI fl_12_124 (Or.inl rfl) rfl (by decide +kernel) (fun M1 => ?_)
  refine s_run (b := [(.aload_n 0, 1), (.iconst 0, 1), (.bipush 99, 2)]) 59 [some (.inr (.inr x0)), none, some (.inl x2), some (.inl x3), none, none, none] [.inl (99 : Int32), .inl (0 : Int32), .inr (.inr x0)] (by decide +kernel) rfl ?_
  refine s_cV (Z := Y_X12_numbered) (c := 12) (vs := [.inl (0 : Int32), .inl (99 : Int32)]) (st := []) (rO := fun z => some (.inl z.1)) (mO := fun z => z.2) zk_X12_numbered zi_X12_numbered q1516 rfl ⟨by decide, by decide⟩ ⟨rfl, rfl⟩ rfl rfl (Nat.le_of_ble_eq_true rfl) (by decide +kernel) (fun z hz => c_X12_numbered hz) (fun z2 => ?_)
  change Sim l G Y_X12_callLine lim _ _ 62 [some (.inr (.inr x0)), none, some (.inl x2), some (.inl x3), none, none, none] [.inl z2.1] z2.2
  refine s_run (b := [(.istore 4, 2), (.aload_n 0, 1), (.iconst 1, 1), (.bipush 20, 2)]) 68 [some (.inr (.inr x0)), none, some (.inl x2), some (.inl x3), some (.inl z2.1), none, none] [.inl (20 : Int32), .inl (1 : Int32), .inr (.inr x0)] (by decide +kernel) rfl ?_
  refine s_cV (Z := Y_X12_numbered) (c := 12) (vs := [.inl (1 : Int32), .inl (20 : Int32)]) (st := []) (rO := fun z => some (.inl z.1)) (mO := fun z => z.2) zk_X12_numbered zi_X12_numbered q1516 rfl ⟨by decide, by decide⟩ ⟨rfl, rfl⟩ rfl rfl (Nat.le_of_ble_eq_true rfl) (by decide +kernel) (fun z hz => c_X12_numbered hz) (fun z3 => ?_)
  change Sim l G Y_X12_callLine lim _ _ 71 [some (.inr (.inr x0)), none, some (.inl x2), some (.inl x3), some (.inl z2.1), none, none] [.inl z3.1] z3.2
  refine s_run (b := [(.istore 5, 2), (.iload_n 2, 1)]) 74 [some (.inr (.inr x0)), none, some (.inl x2), some (.inl x3), some (.inl z2.1), some (.inl z3.1), none] [.inl x2] (by decide +kernel) rfl ?_
  refine s_if_ne (tgt := 78) (off := 4) (by decide +kernel) (by decide) (fun h4 => ?_) (fun h4 => ?_)
  · skip
    exact s_vret (by decide +kernel) rfl
  · skip
    refine s_run (b := [(.bipush 45, 2), (.iconst 3, 1), (.aload_n 0, 1)]) 82 [some (.inr (.inr x0)), none, some (.inl x2), some (.inl x3), some (.inl z2.1), some (.inl z3.1), none] [.inr (.inr x0), .inl (3 : Int32), .inl (45 : Int32)] (by decide +kernel) rfl ?_
    refine s_gR fl_12_17 rfl (by decide +kernel) (fun v5 => ?_)
    refine s_run (b := [(.iconst 1, 1)]) 86 [some (.inr (.inr x0)), none, some (.inl x2), some (.inl x3), some (.inl z2.1), some (.inl z3.1), none] [.inl (1 : Int32), .inr (.inr v5), .inl (3 : Int32), .inl (45 : Int32)] (by decide +kernel) rfl ?_
    refine s_ia (by decide +kernel) (fun v6 => ?_)
    refine s_run (b := [(.imul, 1), (.iadd, 1), (.istore 6, 2), (.aload_n 0, 1)]) 92 [some (.inr (.inr x0)), none, some (.inl x2), some (.inl x3), some (.inl z2.1), some (.inl z3.1), some (.inl ((45 : Int32) + ((3 : Int32) * v6)))] [.inr (.inr x0)] (by decide +kernel) rfl ?_
    refine s_gR fl_12_17 rfl (by decide +kernel) (fun v7 => ?_)
    refine s_run (b := [(.iload 6, 2), (.iload_n 3, 1)]) 98 [some (.inr (.inr x0)), none, some (.inl x2), some (.inl x3), some (.inl z2.1), some (.inl z3.1), some (.inl ((45 : Int32) + ((3 : Int32) * v6)))] [.inl x3, .inl ((45 : Int32) + ((3 : Int32) * v6)), .inr (.inr v7)] (by decide +kernel) rfl ?_
    refine s_is (by decide +kernel) (fun M8 => ?_)
    refine s_run (b := [(.aload_n 0, 1)]) 100 [some (.inr (.inr x0)), none, some (.inl x2), some (.inl x3), some (.inl z2.1), some (.inl z3.1), some (.inl ((45 : Int32) + ((3 : Int32) * v6)))] [.inr (.inr x0)] (by decide +kernel) rfl ?_
    refine s_gR fl_12_17 rfl (by decide +kernel) (fun v9 => ?_)
    refine s_run (b := [(.iload 6, 2), (.iconst 1, 1), (.iadd, 1), (.iload 4, 2)]) 109 [some (.inr (.inr x0)), none, some (.inl x2), some (.inl x3), some (.inl z2.1), some (.inl z3.1), some (.inl ((45 : Int32) + ((3 : Int32) * v6)))] [.inl z2.1, .inl (((45 : Int32) + ((3 : Int32) * v6)) + (1 : Int32)), .inr (.inr v9)] (by decide +kernel) rfl ?_
    refine s_is (by decide +kernel) (fun M10 => ?_)
    refine s_run (b := [(.aload_n 0, 1)]) 111 [some (.inr (.inr x0)), none, some (.inl x2), some (.inl x3), some (.inl z2.1), some (.inl z3.1), some (.inl ((45 : Int32) + ((3 : Int32) * v6)))] [.inr (.inr x0)] (by decide +kernel) rfl ?_
    refine s_gR fl_12_17 rfl (by decide +kernel) (fun v11 => ?_)
    refine s_run (b := [(.iload 6, 2), (.iconst 2, 1), (.iadd, 1), (.iload 5, 2)]) 120 [some (.inr (.inr x0)), none, some (.inl x2), some (.inl x3), some (.inl z2.1), some (.inl z3.1), some (.inl ((45 : Int32) + ((3 : Int32) * v6)))] [.inl z3.1, .inl (((45 : Int32) + ((3 : Int32) * v6)) + (2 : Int32)), .inr (.inr v11)] (by decide +kernel) rfl ?_
    refine s_is (by decide +kernel) (fun M12 => ?_)
    refine s_run (b := [(.aload_n 0, 1)]) 122 [some (.inr (.inr x0)), none, some (.inl x2), some (.inl x3), some (.inl z2.1), some (.inl z3.1), some (.inl ((45 : Int32) + ((3 : Int32) * v6)))] [.inr (.inr x0)] (by decide +kernel) rfl ?_
    refine s_gR fl_12_17 rfl (by decide +kernel) (fun v13 => ?_)
    refine s_run (b := [(.iconst 1, 1), (.dup2, 1)]) 127 [some (.inr (.inr x0)), none, some (.inl x2), some (.inl x3), some (.inl z2.1), some (.inl z3.1), some (.inl ((45 : Int32) + ((3 : Int32) * v6)))] [.inl (1 : Int32), .inr (.inr v13), .inl (1 : Int32), .inr (.inr v13)] (by decide +kernel) rfl ?_
    refine s_ia (by decide +kernel) (fun v14 => ?_)
    refine s_run (b := [(.iconst 1, 1), (.iadd, 1)]) 130 [some (.inr (.inr x0)), none, some (.inl x2), some (.inl x3), some (.inl z2.1), some (.inl z3.1), some (.inl ((45 : Int32) + ((3 : Int32) * v6)))] [.inl (v14 + (1 : Int32)), .inl (1 : Int32), .inr (.inr v13)] (by decide +kernel) rfl ?_
    refine s_is (by decide +kernel) (fun M15 => ?_)
    exact s_vret (by decide +kernel) rfl
def f_X12_callLine_J27 (M : Mem) (x0 : Nat) (x2 : Int32)  : Option (Mem) :=
  (ob M 12 x0).bind fun _ => (f_X12_numbered M x0 (0 : Int32) (7 : Int32)).bind fun z1 =>
  (gI z1.2 12 x0 9).bind fun v2 =>
  (if z1.1 ≤ v2 then
    (gI z1.2 12 x0 9).bind fun v4 =>
    f_X12_callLine_J52 z1.2 x0 x2 z1.1 x0 v4
  else
    f_X12_callLine_J52 z1.2 x0 x2 z1.1 x0 z1.1)
set_option maxRecDepth 20000 in
theorem J_X12_callLine_27 {l : Launch} {G : Gv} {lim : Nat × Nat} (M : Mem) (x0 : Nat) (x2 : Int32)   : Sim l G Y_X12_callLine lim (f_X12_callLine_J27 M x0 x2) (fun z => some (none, z)) 27 [some (.inr (.inr x0)), none, some (.inl x2), none, none, none, none] [] M := by
  unfold f_X12_callLine_J27
  refine s_run (b := [(.aload_n 0, 1), (.iconst 0, 1), (.bipush 7, 2)]) 31 [some (.inr (.inr x0)), none, some (.inl x2), none, none, none, none] [.inl (7 : Int32), .inl (0 : Int32), .inr (.inr x0)] (by decide +kernel) rfl ?_
  refine s_cV (Z := Y_X12_numbered) (c := 12) (vs := [.inl (0 : Int32), .inl (7 : Int32)]) (st := []) (rO := fun z => some (.inl z.1)) (mO := fun z => z.2) zk_X12_numbered zi_X12_numbered q1516 rfl ⟨by decide, by decide⟩ ⟨rfl, rfl⟩ rfl rfl (Nat.le_of_ble_eq_true rfl) (by decide +kernel) (fun z hz => c_X12_numbered hz) (fun z1 => ?_)
  change Sim l G Y_X12_callLine lim _ _ 34 [some (.inr (.inr x0)), none, some (.inl x2), none, none, none, none] [.inl z1.1] z1.2
  refine s_run (b := [(.istore_n 3, 1), (.aload_n 0, 1), (.iload_n 3, 1), (.aload_n 0, 1)]) 38 [some (.inr (.inr x0)), none, some (.inl x2), some (.inl z1.1), none, none, none] [.inr (.inr x0), .inl z1.1, .inr (.inr x0)] (by decide +kernel) rfl ?_
  refine s_gI fl_12_124 rfl (by decide +kernel) (fun v2 => ?_)
  refine s_ic_le (tgt := 48) (off := 7) (by decide +kernel) (by decide) (fun h3 => ?_) (fun h3 => ?_)
  · skip
    refine s_run (b := [(.aload_n 0, 1)]) 49 [some (.inr (.inr x0)), none, some (.inl x2), some (.inl z1.1), none, none, none] [.inr (.inr x0), .inr (.inr x0)] (by decide +kernel) rfl ?_
    refine s_gI fl_12_124 rfl (by decide +kernel) (fun v4 => ?_)
    exact s_lsub (ls' := [some (.inr (.inr x0)), none, some (.inl x2), some (.inl z1.1), none, none, none]) ⟨rfl, ⟨rfl, ⟨rfl, trivial⟩⟩⟩ (J_X12_callLine_52 z1.2 x0 x2 z1.1 x0 v4)
  · skip
    refine s_run (b := [(.iload_n 3, 1), (.goto 7, 3)]) 52 [some (.inr (.inr x0)), none, some (.inl x2), some (.inl z1.1), none, none, none] [.inl z1.1, .inr (.inr x0)] (by decide +kernel) rfl ?_
    exact s_lsub (ls' := [some (.inr (.inr x0)), none, some (.inl x2), some (.inl z1.1), none, none, none]) ⟨rfl, ⟨rfl, ⟨rfl, trivial⟩⟩⟩ (J_X12_callLine_52 z1.2 x0 x2 z1.1 x0 z1.1)
def f_X12_callLine_J16 (M : Mem) (x0 : Nat) (x1 : Int32) (y0 : Int32) : Option (Mem) :=
  (if y0 = 0 then
    (ob M 12 x0).bind fun _ => (f_X12_also M x0 (3 : Int32) x1).bind fun z2 =>
    f_X12_callLine_J27 z2 x0 y0 
  else
    f_X12_callLine_J27 M x0 y0 )
set_option maxRecDepth 20000 in
theorem J_X12_callLine_16 {l : Launch} {G : Gv} {lim : Nat × Nat} (M : Mem) (x0 : Nat) (x1 : Int32) (y0 : Int32)  : Sim l G Y_X12_callLine lim (f_X12_callLine_J16 M x0 x1 y0) (fun z => some (none, z)) 16 [some (.inr (.inr x0)), some (.inl x1), none, none, none, none, none] [.inl y0] M := by
  unfold f_X12_callLine_J16
  refine s_run (b := [(.istore_n 2, 1), (.iload_n 2, 1)]) 18 [some (.inr (.inr x0)), some (.inl x1), some (.inl y0), none, none, none, none] [.inl y0] (by decide +kernel) rfl ?_
  refine s_if_ne (tgt := 27) (off := 9) (by decide +kernel) (by decide) (fun h1 => ?_) (fun h1 => ?_)
  · skip
    refine s_run (b := [(.aload_n 0, 1), (.iconst 3, 1), (.iload_n 1, 1)]) 24 [some (.inr (.inr x0)), some (.inl x1), some (.inl y0), none, none, none, none] [.inl x1, .inl (3 : Int32), .inr (.inr x0)] (by decide +kernel) rfl ?_
    refine s_cV (Z := Y_X12_also) (c := 12) (vs := [.inl (3 : Int32), .inl x1]) (st := []) (rO := fun _ => none) (mO := fun z => z) zk_X12_also zi_X12_also q1512 rfl ⟨by decide, by decide⟩ ⟨rfl, rfl⟩ rfl rfl (Nat.le_of_ble_eq_true rfl) (by decide +kernel) (fun z hz => c_X12_also hz) (fun z2 => ?_)
    change Sim l G Y_X12_callLine lim _ _ 27 [some (.inr (.inr x0)), some (.inl x1), some (.inl y0), none, none, none, none] [] z2
    exact s_lsub (ls' := [some (.inr (.inr x0)), none, some (.inl y0), none, none, none, none]) ⟨rfl, ⟨rfl, trivial⟩⟩ (J_X12_callLine_27 z2 x0 y0 )
  · skip
    exact s_lsub (ls' := [some (.inr (.inr x0)), none, some (.inl y0), none, none, none, none]) ⟨rfl, ⟨rfl, trivial⟩⟩ (J_X12_callLine_27 M x0 y0 )
def f_X12_callLine (M : Mem) (x0 : Nat) (x1 : Int32) : Option (Mem) :=
  (gR M 12 x0 10).bind fun v1 =>
  (aI M 0 v1 (1 : Int32)).bind fun v2 =>
  (if (10 : Int32) ≤ v2 then
    f_X12_callLine_J16 M x0 x1 (0 : Int32)
  else
    f_X12_callLine_J16 M x0 x1 (1 : Int32))
set_option maxRecDepth 20000 in
theorem S_X12_callLine {l : Launch} {G : Gv} {lim : Nat × Nat} (M : Mem) (x0 : Nat) (x1 : Int32) : Sim l G Y_X12_callLine lim (f_X12_callLine M x0 x1) (fun z => some (none, z)) 0 [some (.inr (.inr x0)), some (.inl x1), none, none, none, none, none] [] M := by
  unfold f_X12_callLine
  refine s_run (b := [(.aload_n 0, 1)]) 1 [some (.inr (.inr x0)), some (.inl x1), none, none, none, none, none] [.inr (.inr x0)] (by decide +kernel) rfl ?_
  refine s_gR fl_12_17 rfl (by decide +kernel) (fun v1 => ?_)
  refine s_run (b := [(.iconst 1, 1)]) 5 [some (.inr (.inr x0)), some (.inl x1), none, none, none, none, none] [.inl (1 : Int32), .inr (.inr v1)] (by decide +kernel) rfl ?_
  refine s_ia (by decide +kernel) (fun v2 => ?_)
  refine s_run (b := [(.bipush 10, 2)]) 8 [some (.inr (.inr x0)), some (.inl x1), none, none, none, none, none] [.inl (10 : Int32), .inl v2] (by decide +kernel) rfl ?_
  refine s_ic_ge (tgt := 15) (off := 7) (by decide +kernel) (by decide) (fun h3 => ?_) (fun h3 => ?_)
  · skip
    refine s_run (b := [(.iconst 0, 1)]) 16 [some (.inr (.inr x0)), some (.inl x1), none, none, none, none, none] [.inl (0 : Int32)] (by decide +kernel) rfl ?_
    exact s_lsub (ls' := [some (.inr (.inr x0)), some (.inl x1), none, none, none, none, none]) ⟨rfl, ⟨rfl, trivial⟩⟩ (J_X12_callLine_16 M x0 x1 (0 : Int32))
  · skip
    refine s_run (b := [(.iconst 1, 1), (.goto 4, 3)]) 16 [some (.inr (.inr x0)), some (.inl x1), none, none, none, none, none] [.inl (1 : Int32)] (by decide +kernel) rfl ?_
    exact s_lsub (ls' := [some (.inr (.inr x0)), some (.inl x1), none, none, none, none, none]) ⟨rfl, ⟨rfl, trivial⟩⟩ (J_X12_callLine_16 M x0 x1 (1 : Int32))
set_option maxRecDepth 20000 in
theorem c_X12_callLine {l : Launch} {G : Gv} {M : Mem} {x0 : Nat} {x1 : Int32} {z : Mem} (h : f_X12_callLine M x0 x1 = some z) : MetS l G Y_X12_callLine [.inr (.inr x0), .inl x1] M none z :=
  met_of (ls0 := [some (.inr (.inr x0)), some (.inl x1), none, none, none, none, none]) (by decide) rfl (lv_in (m := 5) rfl) (sl_le (Nat.le_of_ble_eq_true rfl)) (by rw [h]; rfl) (Or.inl ⟨rfl, rfl⟩) (S_X12_callLine M x0 x1)
def f_X12_deskLine_J34 (M : Mem) (x0 : Nat) (x2 : Int32) (x3 : Int32)  : Option (Mem) :=
  (ob M 12 x0).bind fun _ => (f_X12_numbered M x0 (0 : Int32) (30 : Int32)).bind fun z1 =>
  (ob z1.2 12 x0).bind fun _ => (f_X12_numbered z1.2 x0 (1 : Int32) (12 : Int32)).bind fun z2 =>
  (ob z2.2 12 x0).bind fun _ => (f_X12_numbered z2.2 x0 (0 : Int32) (20 : Int32)).bind fun z3 =>
  (ob z3.2 12 x0).bind fun _ => (f_X12_numbered z3.2 x0 (0 : Int32) (10 : Int32)).bind fun z4 =>
  (if x3 = 0 then
    some z4.2
  else
    (gR z4.2 12 x0 10).bind fun v6 =>
    (aI z4.2 0 v6 (0 : Int32)).bind fun v7 =>
    (gR z4.2 12 x0 10).bind fun v8 =>
    (sI z4.2 0 v8 ((5 : Int32) + ((5 : Int32) * v7)) x2).bind fun M9 =>
    (gR M9 12 x0 10).bind fun v10 =>
    (sI M9 0 v10 (((5 : Int32) + ((5 : Int32) * v7)) + (1 : Int32)) z1.1).bind fun M11 =>
    (gR M11 12 x0 10).bind fun v12 =>
    (sI M11 0 v12 (((5 : Int32) + ((5 : Int32) * v7)) + (2 : Int32)) z2.1).bind fun M13 =>
    (gR M13 12 x0 10).bind fun v14 =>
    (sI M13 0 v14 (((5 : Int32) + ((5 : Int32) * v7)) + (3 : Int32)) z3.1).bind fun M15 =>
    (gR M15 12 x0 10).bind fun v16 =>
    (sI M15 0 v16 (((5 : Int32) + ((5 : Int32) * v7)) + (4 : Int32)) z4.1).bind fun M17 =>
    (gR M17 12 x0 10).bind fun v18 =>
    (aI M17 0 v18 (0 : Int32)).bind fun v19 =>
    (sI M17 0 v18 (0 : Int32) (v19 + (1 : Int32))).bind fun M20 =>
    some M20)
set_option maxRecDepth 20000 in
theorem J_X12_deskLine_34 {l : Launch} {G : Gv} {lim : Nat × Nat} (M : Mem) (x0 : Nat) (x2 : Int32) (x3 : Int32)   : Sim l G Y_X12_deskLine lim (f_X12_deskLine_J34 M x0 x2 x3) (fun z => some (none, z)) 34 [some (.inr (.inr x0)), none, some (.inl x2), some (.inl x3), none, none, none, none, none] [] M := by
  unfold f_X12_deskLine_J34
  refine s_run (b := [(.aload_n 0, 1), (.iconst 0, 1), (.bipush 30, 2)]) 38 [some (.inr (.inr x0)), none, some (.inl x2), some (.inl x3), none, none, none, none, none] [.inl (30 : Int32), .inl (0 : Int32), .inr (.inr x0)] (by decide +kernel) rfl ?_
  refine s_cV (Z := Y_X12_numbered) (c := 12) (vs := [.inl (0 : Int32), .inl (30 : Int32)]) (st := []) (rO := fun z => some (.inl z.1)) (mO := fun z => z.2) zk_X12_numbered zi_X12_numbered q1516 rfl ⟨by decide, by decide⟩ ⟨rfl, rfl⟩ rfl rfl (Nat.le_of_ble_eq_true rfl) (by decide +kernel) (fun z hz => c_X12_numbered hz) (fun z1 => ?_)
  change Sim l G Y_X12_deskLine lim _ _ 41 [some (.inr (.inr x0)), none, some (.inl x2), some (.inl x3), none, none, none, none, none] [.inl z1.1] z1.2
  refine s_run (b := [(.istore 4, 2), (.aload_n 0, 1), (.iconst 1, 1), (.bipush 12, 2)]) 47 [some (.inr (.inr x0)), none, some (.inl x2), some (.inl x3), some (.inl z1.1), none, none, none, none] [.inl (12 : Int32), .inl (1 : Int32), .inr (.inr x0)] (by decide +kernel) rfl ?_
  refine s_cV (Z := Y_X12_numbered) (c := 12) (vs := [.inl (1 : Int32), .inl (12 : Int32)]) (st := []) (rO := fun z => some (.inl z.1)) (mO := fun z => z.2) zk_X12_numbered zi_X12_numbered q1516 rfl ⟨by decide, by decide⟩ ⟨rfl, rfl⟩ rfl rfl (Nat.le_of_ble_eq_true rfl) (by decide +kernel) (fun z hz => c_X12_numbered hz) (fun z2 => ?_)
  change Sim l G Y_X12_deskLine lim _ _ 50 [some (.inr (.inr x0)), none, some (.inl x2), some (.inl x3), some (.inl z1.1), none, none, none, none] [.inl z2.1] z2.2
  refine s_run (b := [(.istore 5, 2), (.aload_n 0, 1), (.iconst 0, 1), (.bipush 20, 2)]) 56 [some (.inr (.inr x0)), none, some (.inl x2), some (.inl x3), some (.inl z1.1), some (.inl z2.1), none, none, none] [.inl (20 : Int32), .inl (0 : Int32), .inr (.inr x0)] (by decide +kernel) rfl ?_
  refine s_cV (Z := Y_X12_numbered) (c := 12) (vs := [.inl (0 : Int32), .inl (20 : Int32)]) (st := []) (rO := fun z => some (.inl z.1)) (mO := fun z => z.2) zk_X12_numbered zi_X12_numbered q1516 rfl ⟨by decide, by decide⟩ ⟨rfl, rfl⟩ rfl rfl (Nat.le_of_ble_eq_true rfl) (by decide +kernel) (fun z hz => c_X12_numbered hz) (fun z3 => ?_)
  change Sim l G Y_X12_deskLine lim _ _ 59 [some (.inr (.inr x0)), none, some (.inl x2), some (.inl x3), some (.inl z1.1), some (.inl z2.1), none, none, none] [.inl z3.1] z3.2
  refine s_run (b := [(.istore 6, 2), (.aload_n 0, 1), (.iconst 0, 1), (.bipush 10, 2)]) 65 [some (.inr (.inr x0)), none, some (.inl x2), some (.inl x3), some (.inl z1.1), some (.inl z2.1), some (.inl z3.1), none, none] [.inl (10 : Int32), .inl (0 : Int32), .inr (.inr x0)] (by decide +kernel) rfl ?_
  refine s_cV (Z := Y_X12_numbered) (c := 12) (vs := [.inl (0 : Int32), .inl (10 : Int32)]) (st := []) (rO := fun z => some (.inl z.1)) (mO := fun z => z.2) zk_X12_numbered zi_X12_numbered q1516 rfl ⟨by decide, by decide⟩ ⟨rfl, rfl⟩ rfl rfl (Nat.le_of_ble_eq_true rfl) (by decide +kernel) (fun z hz => c_X12_numbered hz) (fun z4 => ?_)
  change Sim l G Y_X12_deskLine lim _ _ 68 [some (.inr (.inr x0)), none, some (.inl x2), some (.inl x3), some (.inl z1.1), some (.inl z2.1), some (.inl z3.1), none, none] [.inl z4.1] z4.2
  refine s_run (b := [(.istore 7, 2), (.iload_n 3, 1)]) 71 [some (.inr (.inr x0)), none, some (.inl x2), some (.inl x3), some (.inl z1.1), some (.inl z2.1), some (.inl z3.1), some (.inl z4.1), none] [.inl x3] (by decide +kernel) rfl ?_
  refine s_if_ne (tgt := 75) (off := 4) (by decide +kernel) (by decide) (fun h5 => ?_) (fun h5 => ?_)
  · skip
    exact s_vret (by decide +kernel) rfl
  · skip
    refine s_run (b := [(.iconst 5, 1), (.iconst 5, 1), (.aload_n 0, 1)]) 78 [some (.inr (.inr x0)), none, some (.inl x2), some (.inl x3), some (.inl z1.1), some (.inl z2.1), some (.inl z3.1), some (.inl z4.1), none] [.inr (.inr x0), .inl (5 : Int32), .inl (5 : Int32)] (by decide +kernel) rfl ?_
    refine s_gR fl_12_17 rfl (by decide +kernel) (fun v6 => ?_)
    refine s_run (b := [(.iconst 0, 1)]) 82 [some (.inr (.inr x0)), none, some (.inl x2), some (.inl x3), some (.inl z1.1), some (.inl z2.1), some (.inl z3.1), some (.inl z4.1), none] [.inl (0 : Int32), .inr (.inr v6), .inl (5 : Int32), .inl (5 : Int32)] (by decide +kernel) rfl ?_
    refine s_ia (by decide +kernel) (fun v7 => ?_)
    refine s_run (b := [(.imul, 1), (.iadd, 1), (.istore 8, 2), (.aload_n 0, 1)]) 88 [some (.inr (.inr x0)), none, some (.inl x2), some (.inl x3), some (.inl z1.1), some (.inl z2.1), some (.inl z3.1), some (.inl z4.1), some (.inl ((5 : Int32) + ((5 : Int32) * v7)))] [.inr (.inr x0)] (by decide +kernel) rfl ?_
    refine s_gR fl_12_17 rfl (by decide +kernel) (fun v8 => ?_)
    refine s_run (b := [(.iload 8, 2), (.iload_n 2, 1)]) 94 [some (.inr (.inr x0)), none, some (.inl x2), some (.inl x3), some (.inl z1.1), some (.inl z2.1), some (.inl z3.1), some (.inl z4.1), some (.inl ((5 : Int32) + ((5 : Int32) * v7)))] [.inl x2, .inl ((5 : Int32) + ((5 : Int32) * v7)), .inr (.inr v8)] (by decide +kernel) rfl ?_
    refine s_is (by decide +kernel) (fun M9 => ?_)
    refine s_run (b := [(.aload_n 0, 1)]) 96 [some (.inr (.inr x0)), none, some (.inl x2), some (.inl x3), some (.inl z1.1), some (.inl z2.1), some (.inl z3.1), some (.inl z4.1), some (.inl ((5 : Int32) + ((5 : Int32) * v7)))] [.inr (.inr x0)] (by decide +kernel) rfl ?_
    refine s_gR fl_12_17 rfl (by decide +kernel) (fun v10 => ?_)
    refine s_run (b := [(.iload 8, 2), (.iconst 1, 1), (.iadd, 1), (.iload 4, 2)]) 105 [some (.inr (.inr x0)), none, some (.inl x2), some (.inl x3), some (.inl z1.1), some (.inl z2.1), some (.inl z3.1), some (.inl z4.1), some (.inl ((5 : Int32) + ((5 : Int32) * v7)))] [.inl z1.1, .inl (((5 : Int32) + ((5 : Int32) * v7)) + (1 : Int32)), .inr (.inr v10)] (by decide +kernel) rfl ?_
    refine s_is (by decide +kernel) (fun M11 => ?_)
    refine s_run (b := [(.aload_n 0, 1)]) 107 [some (.inr (.inr x0)), none, some (.inl x2), some (.inl x3), some (.inl z1.1), some (.inl z2.1), some (.inl z3.1), some (.inl z4.1), some (.inl ((5 : Int32) + ((5 : Int32) * v7)))] [.inr (.inr x0)] (by decide +kernel) rfl ?_
    refine s_gR fl_12_17 rfl (by decide +kernel) (fun v12 => ?_)
    refine s_run (b := [(.iload 8, 2), (.iconst 2, 1), (.iadd, 1), (.iload 5, 2)]) 116 [some (.inr (.inr x0)), none, some (.inl x2), some (.inl x3), some (.inl z1.1), some (.inl z2.1), some (.inl z3.1), some (.inl z4.1), some (.inl ((5 : Int32) + ((5 : Int32) * v7)))] [.inl z2.1, .inl (((5 : Int32) + ((5 : Int32) * v7)) + (2 : Int32)), .inr (.inr v12)] (by decide +kernel) rfl ?_
    refine s_is (by decide +kernel) (fun M13 => ?_)
    refine s_run (b := [(.aload_n 0, 1)]) 118 [some (.inr (.inr x0)), none, some (.inl x2), some (.inl x3), some (.inl z1.1), some (.inl z2.1), some (.inl z3.1), some (.inl z4.1), some (.inl ((5 : Int32) + ((5 : Int32) * v7)))] [.inr (.inr x0)] (by decide +kernel) rfl ?_
    refine s_gR fl_12_17 rfl (by decide +kernel) (fun v14 => ?_)
    refine s_run (b := [(.iload 8, 2), (.iconst 3, 1), (.iadd, 1), (.iload 6, 2)]) 127 [some (.inr (.inr x0)), none, some (.inl x2), some (.inl x3), some (.inl z1.1), some (.inl z2.1), some (.inl z3.1), some (.inl z4.1), some (.inl ((5 : Int32) + ((5 : Int32) * v7)))] [.inl z3.1, .inl (((5 : Int32) + ((5 : Int32) * v7)) + (3 : Int32)), .inr (.inr v14)] (by decide +kernel) rfl ?_
    refine s_is (by decide +kernel) (fun M15 => ?_)
    refine s_run (b := [(.aload_n 0, 1)]) 129 [some (.inr (.inr x0)), none, some (.inl x2), some (.inl x3), some (.inl z1.1), some (.inl z2.1), some (.inl z3.1), some (.inl z4.1), some (.inl ((5 : Int32) + ((5 : Int32) * v7)))] [.inr (.inr x0)] (by decide +kernel) rfl ?_
    refine s_gR fl_12_17 rfl (by decide +kernel) (fun v16 => ?_)
    refine s_run (b := [(.iload 8, 2), (.iconst 4, 1), (.iadd, 1), (.iload 7, 2)]) 138 [some (.inr (.inr x0)), none, some (.inl x2), some (.inl x3), some (.inl z1.1), some (.inl z2.1), some (.inl z3.1), some (.inl z4.1), some (.inl ((5 : Int32) + ((5 : Int32) * v7)))] [.inl z4.1, .inl (((5 : Int32) + ((5 : Int32) * v7)) + (4 : Int32)), .inr (.inr v16)] (by decide +kernel) rfl ?_
    refine s_is (by decide +kernel) (fun M17 => ?_)
    refine s_run (b := [(.aload_n 0, 1)]) 140 [some (.inr (.inr x0)), none, some (.inl x2), some (.inl x3), some (.inl z1.1), some (.inl z2.1), some (.inl z3.1), some (.inl z4.1), some (.inl ((5 : Int32) + ((5 : Int32) * v7)))] [.inr (.inr x0)] (by decide +kernel) rfl ?_
    refine s_gR fl_12_17 rfl (by decide +kernel) (fun v18 => ?_)
    refine s_run (b := [(.iconst 0, 1), (.dup2, 1)]) 145 [some (.inr (.inr x0)), none, some (.inl x2), some (.inl x3), some (.inl z1.1), some (.inl z2.1), some (.inl z3.1), some (.inl z4.1), some (.inl ((5 : Int32) + ((5 : Int32) * v7)))] [.inl (0 : Int32), .inr (.inr v18), .inl (0 : Int32), .inr (.inr v18)] (by decide +kernel) rfl ?_
    refine s_ia (by decide +kernel) (fun v19 => ?_)
    refine s_run (b := [(.iconst 1, 1), (.iadd, 1)]) 148 [some (.inr (.inr x0)), none, some (.inl x2), some (.inl x3), some (.inl z1.1), some (.inl z2.1), some (.inl z3.1), some (.inl z4.1), some (.inl ((5 : Int32) + ((5 : Int32) * v7)))] [.inl (v19 + (1 : Int32)), .inl (0 : Int32), .inr (.inr v18)] (by decide +kernel) rfl ?_
    refine s_is (by decide +kernel) (fun M20 => ?_)
    exact s_vret (by decide +kernel) rfl
def f_X12_deskLine_J16 (M : Mem) (x0 : Nat) (x1 : Int32) (x2 : Int32) (y0 : Int32) : Option (Mem) :=
  (gI M 12 x0 8).bind fun v1 =>
  (if v1 = 0 then
    (if y0 = 0 then
      (ob M 12 x0).bind fun _ => (f_X12_also M x0 (3 : Int32) x1).bind fun z4 =>
      f_X12_deskLine_J34 z4 x0 x2 y0 
    else
      f_X12_deskLine_J34 M x0 x2 y0 )
  else
    f_X12_deskLine_J34 M x0 x2 y0 )
set_option maxRecDepth 20000 in
theorem J_X12_deskLine_16 {l : Launch} {G : Gv} {lim : Nat × Nat} (M : Mem) (x0 : Nat) (x1 : Int32) (x2 : Int32) (y0 : Int32)  : Sim l G Y_X12_deskLine lim (f_X12_deskLine_J16 M x0 x1 x2 y0) (fun z => some (none, z)) 16 [some (.inr (.inr x0)), some (.inl x1), some (.inl x2), none, none, none, none, none, none] [.inl y0] M := by
  unfold f_X12_deskLine_J16
  refine s_run (b := [(.istore_n 3, 1), (.aload_n 0, 1)]) 18 [some (.inr (.inr x0)), some (.inl x1), some (.inl x2), some (.inl y0), none, none, none, none, none] [.inr (.inr x0)] (by decide +kernel) rfl ?_
  refine s_gI fl_12_102 rfl (by decide +kernel) (fun v1 => ?_)
  refine s_if_ne (tgt := 34) (off := 13) (by decide +kernel) (by decide) (fun h2 => ?_) (fun h2 => ?_)
  · skip
    refine s_run (b := [(.iload_n 3, 1)]) 25 [some (.inr (.inr x0)), some (.inl x1), some (.inl x2), some (.inl y0), none, none, none, none, none] [.inl y0] (by decide +kernel) rfl ?_
    refine s_if_ne (tgt := 34) (off := 9) (by decide +kernel) (by decide) (fun h3 => ?_) (fun h3 => ?_)
    · skip
      refine s_run (b := [(.aload_n 0, 1), (.iconst 3, 1), (.iload_n 1, 1)]) 31 [some (.inr (.inr x0)), some (.inl x1), some (.inl x2), some (.inl y0), none, none, none, none, none] [.inl x1, .inl (3 : Int32), .inr (.inr x0)] (by decide +kernel) rfl ?_
      refine s_cV (Z := Y_X12_also) (c := 12) (vs := [.inl (3 : Int32), .inl x1]) (st := []) (rO := fun _ => none) (mO := fun z => z) zk_X12_also zi_X12_also q1512 rfl ⟨by decide, by decide⟩ ⟨rfl, rfl⟩ rfl rfl (Nat.le_of_ble_eq_true rfl) (by decide +kernel) (fun z hz => c_X12_also hz) (fun z4 => ?_)
      change Sim l G Y_X12_deskLine lim _ _ 34 [some (.inr (.inr x0)), some (.inl x1), some (.inl x2), some (.inl y0), none, none, none, none, none] [] z4
      exact s_lsub (ls' := [some (.inr (.inr x0)), none, some (.inl x2), some (.inl y0), none, none, none, none, none]) ⟨rfl, ⟨rfl, ⟨rfl, trivial⟩⟩⟩ (J_X12_deskLine_34 z4 x0 x2 y0 )
    · skip
      exact s_lsub (ls' := [some (.inr (.inr x0)), none, some (.inl x2), some (.inl y0), none, none, none, none, none]) ⟨rfl, ⟨rfl, ⟨rfl, trivial⟩⟩⟩ (J_X12_deskLine_34 M x0 x2 y0 )
  · skip
    exact s_lsub (ls' := [some (.inr (.inr x0)), none, some (.inl x2), some (.inl y0), none, none, none, none, none]) ⟨rfl, ⟨rfl, ⟨rfl, trivial⟩⟩⟩ (J_X12_deskLine_34 M x0 x2 y0 )
def f_X12_deskLine (M : Mem) (x0 : Nat) (x1 : Int32) (x2 : Int32) : Option (Mem) :=
  (gR M 12 x0 10).bind fun v1 =>
  (aI M 0 v1 (0 : Int32)).bind fun v2 =>
  (if (8 : Int32) ≤ v2 then
    f_X12_deskLine_J16 M x0 x1 x2 (0 : Int32)
  else
    f_X12_deskLine_J16 M x0 x1 x2 (1 : Int32))
set_option maxRecDepth 20000 in
theorem S_X12_deskLine {l : Launch} {G : Gv} {lim : Nat × Nat} (M : Mem) (x0 : Nat) (x1 : Int32) (x2 : Int32) : Sim l G Y_X12_deskLine lim (f_X12_deskLine M x0 x1 x2) (fun z => some (none, z)) 0 [some (.inr (.inr x0)), some (.inl x1), some (.inl x2), none, none, none, none, none, none] [] M := by
  unfold f_X12_deskLine
  refine s_run (b := [(.aload_n 0, 1)]) 1 [some (.inr (.inr x0)), some (.inl x1), some (.inl x2), none, none, none, none, none, none] [.inr (.inr x0)] (by decide +kernel) rfl ?_
  refine s_gR fl_12_17 rfl (by decide +kernel) (fun v1 => ?_)
  refine s_run (b := [(.iconst 0, 1)]) 5 [some (.inr (.inr x0)), some (.inl x1), some (.inl x2), none, none, none, none, none, none] [.inl (0 : Int32), .inr (.inr v1)] (by decide +kernel) rfl ?_
  refine s_ia (by decide +kernel) (fun v2 => ?_)
  refine s_run (b := [(.bipush 8, 2)]) 8 [some (.inr (.inr x0)), some (.inl x1), some (.inl x2), none, none, none, none, none, none] [.inl (8 : Int32), .inl v2] (by decide +kernel) rfl ?_
  refine s_ic_ge (tgt := 15) (off := 7) (by decide +kernel) (by decide) (fun h3 => ?_) (fun h3 => ?_)
  · skip
    refine s_run (b := [(.iconst 0, 1)]) 16 [some (.inr (.inr x0)), some (.inl x1), some (.inl x2), none, none, none, none, none, none] [.inl (0 : Int32)] (by decide +kernel) rfl ?_
    exact s_lsub (ls' := [some (.inr (.inr x0)), some (.inl x1), some (.inl x2), none, none, none, none, none, none]) ⟨rfl, ⟨rfl, ⟨rfl, trivial⟩⟩⟩ (J_X12_deskLine_16 M x0 x1 x2 (0 : Int32))
  · skip
    refine s_run (b := [(.iconst 1, 1), (.goto 4, 3)]) 16 [some (.inr (.inr x0)), some (.inl x1), some (.inl x2), none, none, none, none, none, none] [.inl (1 : Int32)] (by decide +kernel) rfl ?_
    exact s_lsub (ls' := [some (.inr (.inr x0)), some (.inl x1), some (.inl x2), none, none, none, none, none, none]) ⟨rfl, ⟨rfl, ⟨rfl, trivial⟩⟩⟩ (J_X12_deskLine_16 M x0 x1 x2 (1 : Int32))
set_option maxRecDepth 20000 in
theorem c_X12_deskLine {l : Launch} {G : Gv} {M : Mem} {x0 : Nat} {x1 : Int32} {x2 : Int32} {z : Mem} (h : f_X12_deskLine M x0 x1 x2 = some z) : MetS l G Y_X12_deskLine [.inr (.inr x0), .inl x1, .inl x2] M none z :=
  met_of (ls0 := [some (.inr (.inr x0)), some (.inl x1), some (.inl x2), none, none, none, none, none, none]) (by decide) rfl (lv_in (m := 6) rfl) (sl_le (Nat.le_of_ble_eq_true rfl)) (by rw [h]; rfl) (Or.inl ⟨rfl, rfl⟩) (S_X12_deskLine M x0 x1 x2)
def f_X12_officeLine_J135 (M : Mem) (x0 : Nat)  : Option (Mem) :=
  (ob M 12 x0).bind fun _ => (f_X12_endsLine M x0).bind fun z1 =>
  some z1
set_option maxRecDepth 20000 in
theorem J_X12_officeLine_135 {l : Launch} {G : Gv} {lim : Nat × Nat} (M : Mem) (x0 : Nat)   : Sim l G Y_X12_officeLine lim (f_X12_officeLine_J135 M x0) (fun z => some (none, z)) 135 [some (.inr (.inr x0)), none, none] [] M := by
  unfold f_X12_officeLine_J135
  refine s_run (b := [(.aload_n 0, 1)]) 136 [some (.inr (.inr x0)), none, none] [.inr (.inr x0)] (by decide +kernel) rfl ?_
  refine s_cV (Z := Y_X12_endsLine) (c := 12) (vs := []) (st := []) (rO := fun _ => none) (mO := fun z => z) zk_X12_endsLine zi_X12_endsLine q1524 rfl ⟨by decide, by decide⟩ ⟨rfl, rfl⟩ rfl rfl (Nat.le_of_ble_eq_true rfl) (by decide +kernel) (fun z hz => c_X12_endsLine hz) (fun z1 => ?_)
  change Sim l G Y_X12_officeLine lim _ _ 139 [some (.inr (.inr x0)), none, none] [] z1
  exact s_vret (by decide +kernel) rfl
def f_X12_officeLine (M : Mem) (x0 : Nat) : Option (Mem) :=
  (gI M 12 x0 4).bind fun v1 =>
  (ob M 12 x0).bind fun _ => (f_X12_takes M x0 (1 : Int32) (9 : Int32)).bind fun z2 =>
  (if z2.1 = (0 : Int32) then
    f_X12_officeLine_J135 z2.2 x0 
  else
  (if z2.1 = (1 : Int32) then
    (ob z2.2 12 x0).bind fun _ => (f_X12_deskLine z2.2 x0 v1 (z2.1 - (1 : Int32))).bind fun z5 =>
    f_X12_officeLine_J135 z5 x0 
  else
  (if z2.1 = (2 : Int32) then
    (ob z2.2 12 x0).bind fun _ => (f_X12_deskLine z2.2 x0 v1 (z2.1 - (1 : Int32))).bind fun z7 =>
    f_X12_officeLine_J135 z7 x0 
  else
  (if z2.1 = (3 : Int32) then
    (ob z2.2 12 x0).bind fun _ => (f_X12_deskLine z2.2 x0 v1 (z2.1 - (1 : Int32))).bind fun z9 =>
    f_X12_officeLine_J135 z9 x0 
  else
  (if z2.1 = (4 : Int32) then
    (ob z2.2 12 x0).bind fun _ => (f_X12_deskLine z2.2 x0 v1 (z2.1 - (1 : Int32))).bind fun z11 =>
    f_X12_officeLine_J135 z11 x0 
  else
  (if z2.1 = (5 : Int32) then
    (ob z2.2 12 x0).bind fun _ => (f_X12_deskLine z2.2 x0 v1 (z2.1 - (1 : Int32))).bind fun z13 =>
    f_X12_officeLine_J135 z13 x0 
  else
  (if z2.1 = (6 : Int32) then
    (ob z2.2 12 x0).bind fun _ => (f_X12_callLine z2.2 x0 v1).bind fun z15 =>
    f_X12_officeLine_J135 z15 x0 
  else
  (if z2.1 = (7 : Int32) then
    (gR z2.2 12 x0 10).bind fun v17 =>
    (ob z2.2 12 x0).bind fun _ => (f_X12_numbered z2.2 x0 (0 : Int32) (30 : Int32)).bind fun z18 =>
    (sI z18.2 0 v17 (2 : Int32) z18.1).bind fun M19 =>
    f_X12_officeLine_J135 M19 x0 
  else
  (if z2.1 = (8 : Int32) then
    (gR z2.2 12 x0 10).bind fun v21 =>
    (ob z2.2 12 x0).bind fun _ => (f_X12_numbered z2.2 x0 (0 : Int32) (20 : Int32)).bind fun z22 =>
    (sI z22.2 0 v21 (3 : Int32) z22.1).bind fun M23 =>
    f_X12_officeLine_J135 M23 x0 
  else
  (if z2.1 = (9 : Int32) then
    (gR z2.2 12 x0 10).bind fun v25 =>
    (ob z2.2 12 x0).bind fun _ => (f_X12_numbered z2.2 x0 (0 : Int32) (9 : Int32)).bind fun z26 =>
    (sI z26.2 0 v25 (4 : Int32) z26.1).bind fun M27 =>
    f_X12_officeLine_J135 M27 x0 
  else
  (ob z2.2 12 x0).bind fun _ => (f_X12_deskLine z2.2 x0 v1 (z2.1 - (1 : Int32))).bind fun z28 =>
  f_X12_officeLine_J135 z28 x0 ))))))))))
set_option maxRecDepth 20000 in
theorem S_X12_officeLine {l : Launch} {G : Gv} {lim : Nat × Nat} (M : Mem) (x0 : Nat) : Sim l G Y_X12_officeLine lim (f_X12_officeLine M x0) (fun z => some (none, z)) 0 [some (.inr (.inr x0)), none, none] [] M := by
  unfold f_X12_officeLine
  refine s_run (b := [(.aload_n 0, 1)]) 1 [some (.inr (.inr x0)), none, none] [.inr (.inr x0)] (by decide +kernel) rfl ?_
  refine s_gI fl_12_75 rfl (by decide +kernel) (fun v1 => ?_)
  refine s_run (b := [(.istore_n 1, 1), (.aload_n 0, 1), (.iconst 1, 1), (.bipush 9, 2)]) 9 [some (.inr (.inr x0)), some (.inl v1), none] [.inl (9 : Int32), .inl (1 : Int32), .inr (.inr x0)] (by decide +kernel) rfl ?_
  refine s_cV (Z := Y_X12_takes) (c := 12) (vs := [.inl (1 : Int32), .inl (9 : Int32)]) (st := []) (rO := fun z => some (.inl z.1)) (mO := fun z => z.2) zk_X12_takes zi_X12_takes q1500 rfl ⟨by decide, by decide⟩ ⟨rfl, rfl⟩ rfl rfl (Nat.le_of_ble_eq_true rfl) (by decide +kernel) (fun z hz => c_X12_takes hz) (fun z2 => ?_)
  change Sim l G Y_X12_officeLine lim _ _ 12 [some (.inr (.inr x0)), some (.inl v1), none] [.inl z2.1] z2.2
  refine s_run (b := [(.istore_n 2, 1), (.iload_n 2, 1)]) 14 [some (.inr (.inr x0)), some (.inl v1), some (.inl z2.1)] [.inl z2.1] (by decide +kernel) rfl ?_
  refine s_ite (fun h3 => ?_) (fun h3 => ?_)
  · refine s_tabIn (off := 54) (tgt := 68) (dflt := 113) (lo := 0) (hi := 9) (offs := #[54, 113, 113, 113, 113, 113, 57, 65, 81, 97]) (len := 54) (0 : Int32) (by decide +kernel) h3 rfl rfl rfl (by decide) ?_
    change Sim l G Y_X12_officeLine lim _ _ 68 [some (.inr (.inr x0)), some (.inl v1), some (.inl z2.1)] [] z2.2
    refine s_run (b := [(.goto 67, 3)]) 135 [some (.inr (.inr x0)), some (.inl v1), some (.inl z2.1)] [] (by decide +kernel) rfl ?_
    exact s_lsub (ls' := [some (.inr (.inr x0)), none, none]) ⟨rfl, trivial⟩ (J_X12_officeLine_135 z2.2 x0 )
  refine s_ite (fun h4 => ?_) (fun h4 => ?_)
  · refine s_tabIn (off := 113) (tgt := 127) (dflt := 113) (lo := 0) (hi := 9) (offs := #[54, 113, 113, 113, 113, 113, 57, 65, 81, 97]) (len := 54) (1 : Int32) (by decide +kernel) h4 rfl rfl rfl (by decide) ?_
    change Sim l G Y_X12_officeLine lim _ _ 127 [some (.inr (.inr x0)), some (.inl v1), some (.inl z2.1)] [] z2.2
    refine s_run (b := [(.aload_n 0, 1), (.iload_n 1, 1), (.iload_n 2, 1), (.iconst 1, 1), (.isub, 1)]) 132 [some (.inr (.inr x0)), some (.inl v1), some (.inl z2.1)] [.inl (z2.1 - (1 : Int32)), .inl v1, .inr (.inr x0)] (by decide +kernel) rfl ?_
    refine s_cV (Z := Y_X12_deskLine) (c := 12) (vs := [.inl v1, .inl (z2.1 - (1 : Int32))]) (st := []) (rO := fun _ => none) (mO := fun z => z) zk_X12_deskLine zi_X12_deskLine q1520 rfl ⟨by decide, by decide⟩ ⟨rfl, rfl⟩ rfl rfl (Nat.le_of_ble_eq_true rfl) (by decide +kernel) (fun z hz => c_X12_deskLine hz) (fun z5 => ?_)
    change Sim l G Y_X12_officeLine lim _ _ 135 [some (.inr (.inr x0)), some (.inl v1), some (.inl z2.1)] [] z5
    exact s_lsub (ls' := [some (.inr (.inr x0)), none, none]) ⟨rfl, trivial⟩ (J_X12_officeLine_135 z5 x0 )
  refine s_ite (fun h6 => ?_) (fun h6 => ?_)
  · refine s_tabIn (off := 113) (tgt := 127) (dflt := 113) (lo := 0) (hi := 9) (offs := #[54, 113, 113, 113, 113, 113, 57, 65, 81, 97]) (len := 54) (2 : Int32) (by decide +kernel) h6 rfl rfl rfl (by decide) ?_
    change Sim l G Y_X12_officeLine lim _ _ 127 [some (.inr (.inr x0)), some (.inl v1), some (.inl z2.1)] [] z2.2
    refine s_run (b := [(.aload_n 0, 1), (.iload_n 1, 1), (.iload_n 2, 1), (.iconst 1, 1), (.isub, 1)]) 132 [some (.inr (.inr x0)), some (.inl v1), some (.inl z2.1)] [.inl (z2.1 - (1 : Int32)), .inl v1, .inr (.inr x0)] (by decide +kernel) rfl ?_
    refine s_cV (Z := Y_X12_deskLine) (c := 12) (vs := [.inl v1, .inl (z2.1 - (1 : Int32))]) (st := []) (rO := fun _ => none) (mO := fun z => z) zk_X12_deskLine zi_X12_deskLine q1520 rfl ⟨by decide, by decide⟩ ⟨rfl, rfl⟩ rfl rfl (Nat.le_of_ble_eq_true rfl) (by decide +kernel) (fun z hz => c_X12_deskLine hz) (fun z7 => ?_)
    change Sim l G Y_X12_officeLine lim _ _ 135 [some (.inr (.inr x0)), some (.inl v1), some (.inl z2.1)] [] z7
    exact s_lsub (ls' := [some (.inr (.inr x0)), none, none]) ⟨rfl, trivial⟩ (J_X12_officeLine_135 z7 x0 )
  refine s_ite (fun h8 => ?_) (fun h8 => ?_)
  · refine s_tabIn (off := 113) (tgt := 127) (dflt := 113) (lo := 0) (hi := 9) (offs := #[54, 113, 113, 113, 113, 113, 57, 65, 81, 97]) (len := 54) (3 : Int32) (by decide +kernel) h8 rfl rfl rfl (by decide) ?_
    change Sim l G Y_X12_officeLine lim _ _ 127 [some (.inr (.inr x0)), some (.inl v1), some (.inl z2.1)] [] z2.2
    refine s_run (b := [(.aload_n 0, 1), (.iload_n 1, 1), (.iload_n 2, 1), (.iconst 1, 1), (.isub, 1)]) 132 [some (.inr (.inr x0)), some (.inl v1), some (.inl z2.1)] [.inl (z2.1 - (1 : Int32)), .inl v1, .inr (.inr x0)] (by decide +kernel) rfl ?_
    refine s_cV (Z := Y_X12_deskLine) (c := 12) (vs := [.inl v1, .inl (z2.1 - (1 : Int32))]) (st := []) (rO := fun _ => none) (mO := fun z => z) zk_X12_deskLine zi_X12_deskLine q1520 rfl ⟨by decide, by decide⟩ ⟨rfl, rfl⟩ rfl rfl (Nat.le_of_ble_eq_true rfl) (by decide +kernel) (fun z hz => c_X12_deskLine hz) (fun z9 => ?_)
    change Sim l G Y_X12_officeLine lim _ _ 135 [some (.inr (.inr x0)), some (.inl v1), some (.inl z2.1)] [] z9
    exact s_lsub (ls' := [some (.inr (.inr x0)), none, none]) ⟨rfl, trivial⟩ (J_X12_officeLine_135 z9 x0 )
  refine s_ite (fun h10 => ?_) (fun h10 => ?_)
  · refine s_tabIn (off := 113) (tgt := 127) (dflt := 113) (lo := 0) (hi := 9) (offs := #[54, 113, 113, 113, 113, 113, 57, 65, 81, 97]) (len := 54) (4 : Int32) (by decide +kernel) h10 rfl rfl rfl (by decide) ?_
    change Sim l G Y_X12_officeLine lim _ _ 127 [some (.inr (.inr x0)), some (.inl v1), some (.inl z2.1)] [] z2.2
    refine s_run (b := [(.aload_n 0, 1), (.iload_n 1, 1), (.iload_n 2, 1), (.iconst 1, 1), (.isub, 1)]) 132 [some (.inr (.inr x0)), some (.inl v1), some (.inl z2.1)] [.inl (z2.1 - (1 : Int32)), .inl v1, .inr (.inr x0)] (by decide +kernel) rfl ?_
    refine s_cV (Z := Y_X12_deskLine) (c := 12) (vs := [.inl v1, .inl (z2.1 - (1 : Int32))]) (st := []) (rO := fun _ => none) (mO := fun z => z) zk_X12_deskLine zi_X12_deskLine q1520 rfl ⟨by decide, by decide⟩ ⟨rfl, rfl⟩ rfl rfl (Nat.le_of_ble_eq_true rfl) (by decide +kernel) (fun z hz => c_X12_deskLine hz) (fun z11 => ?_)
    change Sim l G Y_X12_officeLine lim _ _ 135 [some (.inr (.inr x0)), some (.inl v1), some (.inl z2.1)] [] z11
    exact s_lsub (ls' := [some (.inr (.inr x0)), none, none]) ⟨rfl, trivial⟩ (J_X12_officeLine_135 z11 x0 )
  refine s_ite (fun h12 => ?_) (fun h12 => ?_)
  · refine s_tabIn (off := 113) (tgt := 127) (dflt := 113) (lo := 0) (hi := 9) (offs := #[54, 113, 113, 113, 113, 113, 57, 65, 81, 97]) (len := 54) (5 : Int32) (by decide +kernel) h12 rfl rfl rfl (by decide) ?_
    change Sim l G Y_X12_officeLine lim _ _ 127 [some (.inr (.inr x0)), some (.inl v1), some (.inl z2.1)] [] z2.2
    refine s_run (b := [(.aload_n 0, 1), (.iload_n 1, 1), (.iload_n 2, 1), (.iconst 1, 1), (.isub, 1)]) 132 [some (.inr (.inr x0)), some (.inl v1), some (.inl z2.1)] [.inl (z2.1 - (1 : Int32)), .inl v1, .inr (.inr x0)] (by decide +kernel) rfl ?_
    refine s_cV (Z := Y_X12_deskLine) (c := 12) (vs := [.inl v1, .inl (z2.1 - (1 : Int32))]) (st := []) (rO := fun _ => none) (mO := fun z => z) zk_X12_deskLine zi_X12_deskLine q1520 rfl ⟨by decide, by decide⟩ ⟨rfl, rfl⟩ rfl rfl (Nat.le_of_ble_eq_true rfl) (by decide +kernel) (fun z hz => c_X12_deskLine hz) (fun z13 => ?_)
    change Sim l G Y_X12_officeLine lim _ _ 135 [some (.inr (.inr x0)), some (.inl v1), some (.inl z2.1)] [] z13
    exact s_lsub (ls' := [some (.inr (.inr x0)), none, none]) ⟨rfl, trivial⟩ (J_X12_officeLine_135 z13 x0 )
  refine s_ite (fun h14 => ?_) (fun h14 => ?_)
  · refine s_tabIn (off := 57) (tgt := 71) (dflt := 113) (lo := 0) (hi := 9) (offs := #[54, 113, 113, 113, 113, 113, 57, 65, 81, 97]) (len := 54) (6 : Int32) (by decide +kernel) h14 rfl rfl rfl (by decide) ?_
    change Sim l G Y_X12_officeLine lim _ _ 71 [some (.inr (.inr x0)), some (.inl v1), some (.inl z2.1)] [] z2.2
    refine s_run (b := [(.aload_n 0, 1), (.iload_n 1, 1)]) 73 [some (.inr (.inr x0)), some (.inl v1), some (.inl z2.1)] [.inl v1, .inr (.inr x0)] (by decide +kernel) rfl ?_
    refine s_cV (Z := Y_X12_callLine) (c := 12) (vs := [.inl v1]) (st := []) (rO := fun _ => none) (mO := fun z => z) zk_X12_callLine zi_X12_callLine q1508 rfl ⟨by decide, by decide⟩ ⟨rfl, rfl⟩ rfl rfl (Nat.le_of_ble_eq_true rfl) (by decide +kernel) (fun z hz => c_X12_callLine hz) (fun z15 => ?_)
    change Sim l G Y_X12_officeLine lim _ _ 76 [some (.inr (.inr x0)), some (.inl v1), some (.inl z2.1)] [] z15
    refine s_run (b := [(.goto 59, 3)]) 135 [some (.inr (.inr x0)), some (.inl v1), some (.inl z2.1)] [] (by decide +kernel) rfl ?_
    exact s_lsub (ls' := [some (.inr (.inr x0)), none, none]) ⟨rfl, trivial⟩ (J_X12_officeLine_135 z15 x0 )
  refine s_ite (fun h16 => ?_) (fun h16 => ?_)
  · refine s_tabIn (off := 65) (tgt := 79) (dflt := 113) (lo := 0) (hi := 9) (offs := #[54, 113, 113, 113, 113, 113, 57, 65, 81, 97]) (len := 54) (7 : Int32) (by decide +kernel) h16 rfl rfl rfl (by decide) ?_
    change Sim l G Y_X12_officeLine lim _ _ 79 [some (.inr (.inr x0)), some (.inl v1), some (.inl z2.1)] [] z2.2
    refine s_run (b := [(.aload_n 0, 1)]) 80 [some (.inr (.inr x0)), some (.inl v1), some (.inl z2.1)] [.inr (.inr x0)] (by decide +kernel) rfl ?_
    refine s_gR fl_12_17 rfl (by decide +kernel) (fun v17 => ?_)
    refine s_run (b := [(.iconst 2, 1), (.aload_n 0, 1), (.iconst 0, 1), (.bipush 30, 2)]) 88 [some (.inr (.inr x0)), some (.inl v1), some (.inl z2.1)] [.inl (30 : Int32), .inl (0 : Int32), .inr (.inr x0), .inl (2 : Int32), .inr (.inr v17)] (by decide +kernel) rfl ?_
    refine s_cV (Z := Y_X12_numbered) (c := 12) (vs := [.inl (0 : Int32), .inl (30 : Int32)]) (st := [.inl (2 : Int32), .inr (.inr v17)]) (rO := fun z => some (.inl z.1)) (mO := fun z => z.2) zk_X12_numbered zi_X12_numbered q1516 rfl ⟨by decide, by decide⟩ ⟨rfl, rfl⟩ rfl rfl (Nat.le_of_ble_eq_true rfl) (by decide +kernel) (fun z hz => c_X12_numbered hz) (fun z18 => ?_)
    change Sim l G Y_X12_officeLine lim _ _ 91 [some (.inr (.inr x0)), some (.inl v1), some (.inl z2.1)] [.inl z18.1, .inl (2 : Int32), .inr (.inr v17)] z18.2
    refine s_is (by decide +kernel) (fun M19 => ?_)
    refine s_run (b := [(.goto 43, 3)]) 135 [some (.inr (.inr x0)), some (.inl v1), some (.inl z2.1)] [] (by decide +kernel) rfl ?_
    exact s_lsub (ls' := [some (.inr (.inr x0)), none, none]) ⟨rfl, trivial⟩ (J_X12_officeLine_135 M19 x0 )
  refine s_ite (fun h20 => ?_) (fun h20 => ?_)
  · refine s_tabIn (off := 81) (tgt := 95) (dflt := 113) (lo := 0) (hi := 9) (offs := #[54, 113, 113, 113, 113, 113, 57, 65, 81, 97]) (len := 54) (8 : Int32) (by decide +kernel) h20 rfl rfl rfl (by decide) ?_
    change Sim l G Y_X12_officeLine lim _ _ 95 [some (.inr (.inr x0)), some (.inl v1), some (.inl z2.1)] [] z2.2
    refine s_run (b := [(.aload_n 0, 1)]) 96 [some (.inr (.inr x0)), some (.inl v1), some (.inl z2.1)] [.inr (.inr x0)] (by decide +kernel) rfl ?_
    refine s_gR fl_12_17 rfl (by decide +kernel) (fun v21 => ?_)
    refine s_run (b := [(.iconst 3, 1), (.aload_n 0, 1), (.iconst 0, 1), (.bipush 20, 2)]) 104 [some (.inr (.inr x0)), some (.inl v1), some (.inl z2.1)] [.inl (20 : Int32), .inl (0 : Int32), .inr (.inr x0), .inl (3 : Int32), .inr (.inr v21)] (by decide +kernel) rfl ?_
    refine s_cV (Z := Y_X12_numbered) (c := 12) (vs := [.inl (0 : Int32), .inl (20 : Int32)]) (st := [.inl (3 : Int32), .inr (.inr v21)]) (rO := fun z => some (.inl z.1)) (mO := fun z => z.2) zk_X12_numbered zi_X12_numbered q1516 rfl ⟨by decide, by decide⟩ ⟨rfl, rfl⟩ rfl rfl (Nat.le_of_ble_eq_true rfl) (by decide +kernel) (fun z hz => c_X12_numbered hz) (fun z22 => ?_)
    change Sim l G Y_X12_officeLine lim _ _ 107 [some (.inr (.inr x0)), some (.inl v1), some (.inl z2.1)] [.inl z22.1, .inl (3 : Int32), .inr (.inr v21)] z22.2
    refine s_is (by decide +kernel) (fun M23 => ?_)
    refine s_run (b := [(.goto 27, 3)]) 135 [some (.inr (.inr x0)), some (.inl v1), some (.inl z2.1)] [] (by decide +kernel) rfl ?_
    exact s_lsub (ls' := [some (.inr (.inr x0)), none, none]) ⟨rfl, trivial⟩ (J_X12_officeLine_135 M23 x0 )
  refine s_ite (fun h24 => ?_) (fun h24 => ?_)
  · refine s_tabIn (off := 97) (tgt := 111) (dflt := 113) (lo := 0) (hi := 9) (offs := #[54, 113, 113, 113, 113, 113, 57, 65, 81, 97]) (len := 54) (9 : Int32) (by decide +kernel) h24 rfl rfl rfl (by decide) ?_
    change Sim l G Y_X12_officeLine lim _ _ 111 [some (.inr (.inr x0)), some (.inl v1), some (.inl z2.1)] [] z2.2
    refine s_run (b := [(.aload_n 0, 1)]) 112 [some (.inr (.inr x0)), some (.inl v1), some (.inl z2.1)] [.inr (.inr x0)] (by decide +kernel) rfl ?_
    refine s_gR fl_12_17 rfl (by decide +kernel) (fun v25 => ?_)
    refine s_run (b := [(.iconst 4, 1), (.aload_n 0, 1), (.iconst 0, 1), (.bipush 9, 2)]) 120 [some (.inr (.inr x0)), some (.inl v1), some (.inl z2.1)] [.inl (9 : Int32), .inl (0 : Int32), .inr (.inr x0), .inl (4 : Int32), .inr (.inr v25)] (by decide +kernel) rfl ?_
    refine s_cV (Z := Y_X12_numbered) (c := 12) (vs := [.inl (0 : Int32), .inl (9 : Int32)]) (st := [.inl (4 : Int32), .inr (.inr v25)]) (rO := fun z => some (.inl z.1)) (mO := fun z => z.2) zk_X12_numbered zi_X12_numbered q1516 rfl ⟨by decide, by decide⟩ ⟨rfl, rfl⟩ rfl rfl (Nat.le_of_ble_eq_true rfl) (by decide +kernel) (fun z hz => c_X12_numbered hz) (fun z26 => ?_)
    change Sim l G Y_X12_officeLine lim _ _ 123 [some (.inr (.inr x0)), some (.inl v1), some (.inl z2.1)] [.inl z26.1, .inl (4 : Int32), .inr (.inr v25)] z26.2
    refine s_is (by decide +kernel) (fun M27 => ?_)
    refine s_run (b := [(.goto 11, 3)]) 135 [some (.inr (.inr x0)), some (.inl v1), some (.inl z2.1)] [] (by decide +kernel) rfl ?_
    exact s_lsub (ls' := [some (.inr (.inr x0)), none, none]) ⟨rfl, trivial⟩ (J_X12_officeLine_135 M27 x0 )
  refine s_tabOut (tgt := 127) (dflt := 113) (lo := 0) (hi := 9) (offs := #[54, 113, 113, 113, 113, 113, 57, 65, 81, 97]) (len := 54) (by decide +kernel) (tab_out (fun k hk => by rcases (show k = 0 ∨ k = 1 ∨ k = 2 ∨ k = 3 ∨ k = 4 ∨ k = 5 ∨ k = 6 ∨ k = 7 ∨ k = 8 ∨ k = 9 by omega) with rfl | rfl | rfl | rfl | rfl | rfl | rfl | rfl | rfl | rfl <;> first | exact i32_ne h3 (by decide) | exact i32_ne h4 (by decide) | exact i32_ne h6 (by decide) | exact i32_ne h8 (by decide) | exact i32_ne h10 (by decide) | exact i32_ne h12 (by decide) | exact i32_ne h14 (by decide) | exact i32_ne h16 (by decide) | exact i32_ne h20 (by decide) | exact i32_ne h24 (by decide))) (by decide) ?_
  change Sim l G Y_X12_officeLine lim _ _ 127 [some (.inr (.inr x0)), some (.inl v1), some (.inl z2.1)] [] z2.2
  refine s_run (b := [(.aload_n 0, 1), (.iload_n 1, 1), (.iload_n 2, 1), (.iconst 1, 1), (.isub, 1)]) 132 [some (.inr (.inr x0)), some (.inl v1), some (.inl z2.1)] [.inl (z2.1 - (1 : Int32)), .inl v1, .inr (.inr x0)] (by decide +kernel) rfl ?_
  refine s_cV (Z := Y_X12_deskLine) (c := 12) (vs := [.inl v1, .inl (z2.1 - (1 : Int32))]) (st := []) (rO := fun _ => none) (mO := fun z => z) zk_X12_deskLine zi_X12_deskLine q1520 rfl ⟨by decide, by decide⟩ ⟨rfl, rfl⟩ rfl rfl (Nat.le_of_ble_eq_true rfl) (by decide +kernel) (fun z hz => c_X12_deskLine hz) (fun z28 => ?_)
  change Sim l G Y_X12_officeLine lim _ _ 135 [some (.inr (.inr x0)), some (.inl v1), some (.inl z2.1)] [] z28
  exact s_lsub (ls' := [some (.inr (.inr x0)), none, none]) ⟨rfl, trivial⟩ (J_X12_officeLine_135 z28 x0 )
set_option maxRecDepth 20000 in
theorem c_X12_officeLine {l : Launch} {G : Gv} {M : Mem} {x0 : Nat} {z : Mem} (h : f_X12_officeLine M x0 = some z) : MetS l G Y_X12_officeLine [.inr (.inr x0)] M none z :=
  met_of (ls0 := [some (.inr (.inr x0)), none, none]) (by decide) rfl (lv_in (m := 2) rfl) (sl_le (Nat.le_of_ble_eq_true rfl)) (by rw [h]; rfl) (Or.inl ⟨rfl, rfl⟩) (S_X12_officeLine M x0)
def f_X12_sizeOf (M : Mem) (x0 : Int32) : Option (Int32) :=
  (if x0 = 0 then
    some (75 : Int32)
  else
    (if x0 = (1 : Int32) then
      some (81 : Int32)
    else
      some (33 : Int32)))
set_option maxRecDepth 20000 in
theorem S_X12_sizeOf {l : Launch} {G : Gv} {lim : Nat × Nat} (M : Mem) (x0 : Int32) : Sim l G Y_X12_sizeOf lim (f_X12_sizeOf M x0) (fun z => some (some (.int z), M)) 0 [some (.inl x0)] [] M := by
  unfold f_X12_sizeOf
  refine s_run (b := [(.iload_n 0, 1)]) 1 [some (.inl x0)] [.inl x0] (by decide +kernel) rfl ?_
  refine s_if_ne (tgt := 9) (off := 8) (by decide +kernel) (by decide) (fun h1 => ?_) (fun h1 => ?_)
  · skip
    refine s_run (b := [(.bipush 75, 2), (.goto 15, 3)]) 21 [some (.inl x0)] [.inl (75 : Int32)] (by decide +kernel) rfl ?_
    exact s_iret (by decide +kernel) rfl
  · skip
    refine s_run (b := [(.iload_n 0, 1), (.iconst 1, 1)]) 11 [some (.inl x0)] [.inl (1 : Int32), .inl x0] (by decide +kernel) rfl ?_
    refine s_ic_ne (tgt := 19) (off := 8) (by decide +kernel) (by decide) (fun h2 => ?_) (fun h2 => ?_)
    · skip
      refine s_run (b := [(.bipush 81, 2), (.goto 5, 3)]) 21 [some (.inl x0)] [.inl (81 : Int32)] (by decide +kernel) rfl ?_
      exact s_iret (by decide +kernel) rfl
    · skip
      refine s_run (b := [(.bipush 33, 2)]) 21 [some (.inl x0)] [.inl (33 : Int32)] (by decide +kernel) rfl ?_
      exact s_iret (by decide +kernel) rfl
set_option maxRecDepth 20000 in
theorem c_X12_sizeOf {l : Launch} {G : Gv} {M : Mem} {x0 : Int32} {z : Int32} (h : f_X12_sizeOf M x0 = some z) : MetS l G Y_X12_sizeOf [.inl x0] M (some (.int z)) M :=
  met_of (ls0 := [some (.inl x0)]) (by decide) rfl (lv_in (m := 0) rfl) (sl_le (Nat.le_of_ble_eq_true rfl)) (by rw [h]; rfl) (Or.inl ⟨rfl, rfl⟩) (S_X12_sizeOf M x0)
