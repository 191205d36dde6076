def f_X12_text_B88 (M : Mem) (x0 : Nat) (x1 : Int32) (x2 : Int32) (x3 : Int32) : Option ((Int32 × Mem) ⊕ ((Mem))) :=
  (if (81 : Int32) ≤ x3 then
    some (.inr M)
  else
    (gR M 12 x0 10).bind fun v2 =>
    (sI M 0 v2 x3 (0 : Int32)).bind fun M3 =>
    some (.inl ((x3 + (1 : Int32)), M3)))
def f_X12_text_L88 (M : Mem) (x0 : Nat) (x1 : Int32) (x2 : Int32) (x3 : Int32) : Option ((Mem)) := iter (fun s : Int32 × Mem => f_X12_text_B88 s.2 x0 x1 x2 s.1) 1048576 (x3, M)
set_option maxRecDepth 20000 in
theorem B_X12_text_88 {l : Launch} {G : Gv} {lim : Nat × Nat} (M : Mem) (x0 : Nat) (x1 : Int32) (x2 : Int32) (x3 : Int32) (K : (Int32 × Mem) ⊕ ((Mem)) → Option (Option Value × Mem)) (kk1 : ∀ (s3 : Int32) (s_ : Mem), SimR l G Y_X12_text lim (K (.inl (s3, s_))) 88 [some (.inr (.inr x0)), some (.inl x1), some (.inl x2), some (.inl s3), none] [] s_) (kk2_0 : ∀ (s_ : Mem), SimR l G Y_X12_text lim (K (.inr s_)) 107 [some (.inr (.inr x0)), some (.inl x1), some (.inl x2), none, none] [] s_) : Sim l G Y_X12_text lim (f_X12_text_B88 M x0 x1 x2 x3) K 88 [some (.inr (.inr x0)), some (.inl x1), some (.inl x2), some (.inl x3), none] [] M := by
  unfold f_X12_text_B88
  refine s_run (b := [(.iload_n 3, 1), (.bipush 81, 2)]) 91 [some (.inr (.inr x0)), some (.inl x1), some (.inl x2), some (.inl x3), none] [.inl (81 : Int32), .inl x3] (by decide +kernel) rfl ?_
  refine s_ic_ge (tgt := 107) (off := 16) (by decide +kernel) (by decide) (fun h1 => ?_) (fun h1 => ?_)
  · skip
    exact s_lsub (ls' := [some (.inr (.inr x0)), some (.inl x1), some (.inl x2), none, none]) ⟨rfl, ⟨rfl, ⟨rfl, trivial⟩⟩⟩ (kk2_0 M)
  · skip
    refine s_run (b := [(.aload_n 0, 1)]) 95 [some (.inr (.inr x0)), some (.inl x1), some (.inl x2), some (.inl x3), none] [.inr (.inr x0)] (by decide +kernel) rfl ?_
    refine s_gR fl_12_17 rfl (by decide +kernel) (fun v2 => ?_)
    refine s_run (b := [(.iload_n 3, 1), (.iconst 0, 1)]) 100 [some (.inr (.inr x0)), some (.inl x1), some (.inl x2), some (.inl x3), none] [.inl (0 : Int32), .inl x3, .inr (.inr v2)] (by decide +kernel) rfl ?_
    refine s_is (by decide +kernel) (fun M3 => ?_)
    refine s_run (b := [(.iinc 3 1, 3), (.goto (-16), 3)]) 88 [some (.inr (.inr x0)), some (.inl x1), some (.inl x2), some (.inl (x3 + (1 : Int32))), none] [] (by decide +kernel) rfl ?_
    exact s_lsub (ls' := [some (.inr (.inr x0)), some (.inl x1), some (.inl x2), some (.inl (x3 + (1 : Int32))), none]) ⟨rfl, ⟨rfl, ⟨rfl, ⟨rfl, trivial⟩⟩⟩⟩ (kk1 (x3 + (1 : Int32)) M3)
set_option maxRecDepth 20000 in
theorem L_X12_text_88 {l : Launch} {G : Gv} {lim : Nat × Nat} (M : Mem) (x0 : Nat) (x1 : Int32) (x2 : Int32) (x3 : Int32) (K : ((Mem)) → Option (Option Value × Mem)) (kk2_0 : ∀ r : Mem, SimR l G Y_X12_text lim (K r) 107 [some (.inr (.inr x0)), some (.inl x1), some (.inl x2), none, none] [] r) : Sim l G Y_X12_text lim (f_X12_text_L88 M x0 x1 x2 x3) K 88 [some (.inr (.inr x0)), some (.inl x1), some (.inl x2), some (.inl x3), none] [] M :=
  s_iter (f := fun s : Int32 × Mem => f_X12_text_B88 s.2 x0 x1 x2 s.1) (hd := 88) (cl := fun s => [some (.inr (.inr x0)), some (.inl x1), some (.inl x2), some (.inl s.1), none]) (cm := fun s => s.2) (xp := fun _ => 107) (xl := fun r => [some (.inr (.inr x0)), some (.inl x1), some (.inl x2), none, none]) (xm := fun r => r) (fun s K h1 h2 => B_X12_text_88 s.2 x0 x1 x2 s.1 K (fun a3 a_ => h1 (a3, a_)) (fun a_ => h2 a_)) 1048576 (x3, M) K kk2_0
def f_X12_text_B130 (M : Mem) (x0 : Nat) (x1 : Int32) (x2 : Int32)  : Option ((Mem) ⊕ ((Mem))) :=
  (gI M 12 x0 8).bind fun v1 =>
  (if v1 = 0 then
    (gI M 12 x0 5).bind fun v3 =>
    (if v3 = 0 then
      some (.inr M)
    else
      (if x1 = (0 : Int32) then
        (ob M 12 x0).bind fun _ => (f_X12_officeLine M x0).bind fun z6 =>
        some (.inl z6)
      else
      (if x1 = (1 : Int32) then
        (ob M 12 x0).bind fun _ => (f_X12_dayLine M x0).bind fun z8 =>
        some (.inl z8)
      else
      (ob M 12 x0).bind fun _ => (f_X12_logLine M x0).bind fun z9 =>
      some (.inl z9))))
  else
    some (.inr M))
def f_X12_text_L130 (M : Mem) (x0 : Nat) (x1 : Int32) (x2 : Int32)  : Option ((Mem)) := iter (fun s : Mem => f_X12_text_B130 s x0 x1 x2 ) 1048576 M
set_option maxRecDepth 20000 in
theorem B_X12_text_130 {l : Launch} {G : Gv} {lim : Nat × Nat} (M : Mem) (x0 : Nat) (x1 : Int32) (x2 : Int32)  (K : (Mem) ⊕ ((Mem)) → Option (Option Value × Mem)) (kk1 : ∀ (s_ : Mem), SimR l G Y_X12_text lim (K (.inl s_)) 130 [some (.inr (.inr x0)), some (.inl x1), some (.inl x2), none, none] [] s_) (kk2_0 : ∀ (s_ : Mem), SimR l G Y_X12_text lim (K (.inr s_)) 193 [some (.inr (.inr x0)), some (.inl x1), some (.inl x2), none, none] [] s_) : Sim l G Y_X12_text lim (f_X12_text_B130 M x0 x1 x2 ) K 130 [some (.inr (.inr x0)), some (.inl x1), some (.inl x2), none, none] [] M := by
  unfold f_X12_text_B130
  refine s_run (b := [(.aload_n 0, 1)]) 131 [some (.inr (.inr x0)), some (.inl x1), some (.inl x2), none, none] [.inr (.inr x0)] (by decide +kernel) rfl ?_
  refine s_gI fl_12_102 rfl (by decide +kernel) (fun v1 => ?_)
  refine s_if_ne (tgt := 193) (off := 59) (by decide +kernel) (by decide) (fun h2 => ?_) (fun h2 => ?_)
  · skip
    refine s_run (b := [(.aload_n 0, 1)]) 138 [some (.inr (.inr x0)), some (.inl x1), some (.inl x2), none, none] [.inr (.inr x0)] (by decide +kernel) rfl ?_
    refine s_gI fl_12_78 rfl (by decide +kernel) (fun v3 => ?_)
    refine s_if_eq (tgt := 193) (off := 52) (by decide +kernel) (by decide) (fun h4 => ?_) (fun h4 => ?_)
    · skip
      exact s_lsub (ls' := [some (.inr (.inr x0)), some (.inl x1), some (.inl x2), none, none]) ⟨rfl, ⟨rfl, ⟨rfl, trivial⟩⟩⟩ (kk2_0 M)
    · skip
      refine s_run (b := [(.iload_n 1, 1)]) 145 [some (.inr (.inr x0)), some (.inl x1), some (.inl x2), none, none] [.inl x1] (by decide +kernel) rfl ?_
      refine s_ite (fun h5 => ?_) (fun h5 => ?_)
      · refine s_lookup (off := 27) (tgt := 172) (dflt := 41) (ps := #[(0, 27), (1, 34)]) (len := 27) (by decide +kernel) (by decide) (by rw [h5]; decide) (by decide) ?_
        change Sim l G Y_X12_text lim _ _ 172 [some (.inr (.inr x0)), some (.inl x1), some (.inl x2), none, none] [] M
        refine s_run (b := [(.aload_n 0, 1)]) 173 [some (.inr (.inr x0)), some (.inl x1), some (.inl x2), none, none] [.inr (.inr x0)] (by decide +kernel) rfl ?_
        refine s_cV (Z := Y_X12_officeLine) (c := 12) (vs := []) (st := []) (rO := fun _ => none) (mO := fun z => z) zk_X12_officeLine zi_X12_officeLine q1496 rfl ⟨by decide, by decide⟩ ⟨rfl, rfl⟩ rfl rfl (Nat.le_of_ble_eq_true rfl) (by decide +kernel) (fun z hz => c_X12_officeLine hz) (fun z6 => ?_)
        change Sim l G Y_X12_text lim _ _ 176 [some (.inr (.inr x0)), some (.inl x1), some (.inl x2), none, none] [] z6
        refine s_run (b := [(.goto (-46), 3)]) 130 [some (.inr (.inr x0)), some (.inl x1), some (.inl x2), none, none] [] (by decide +kernel) rfl ?_
        exact s_lsub (ls' := [some (.inr (.inr x0)), some (.inl x1), some (.inl x2), none, none]) ⟨rfl, ⟨rfl, ⟨rfl, trivial⟩⟩⟩ (kk1 z6)
      refine s_ite (fun h7 => ?_) (fun h7 => ?_)
      · refine s_lookup (off := 34) (tgt := 179) (dflt := 41) (ps := #[(0, 27), (1, 34)]) (len := 27) (by decide +kernel) (by decide) (by rw [h7]; decide) (by decide) ?_
        change Sim l G Y_X12_text lim _ _ 179 [some (.inr (.inr x0)), some (.inl x1), some (.inl x2), none, none] [] M
        refine s_run (b := [(.aload_n 0, 1)]) 180 [some (.inr (.inr x0)), some (.inl x1), some (.inl x2), none, none] [.inr (.inr x0)] (by decide +kernel) rfl ?_
        refine s_cV (Z := Y_X12_dayLine) (c := 12) (vs := []) (st := []) (rO := fun _ => none) (mO := fun z => z) zk_X12_dayLine zi_X12_dayLine q1528 rfl ⟨by decide, by decide⟩ ⟨rfl, rfl⟩ rfl rfl (Nat.le_of_ble_eq_true rfl) (by decide +kernel) (fun z hz => c_X12_dayLine hz) (fun z8 => ?_)
        change Sim l G Y_X12_text lim _ _ 183 [some (.inr (.inr x0)), some (.inl x1), some (.inl x2), none, none] [] z8
        refine s_run (b := [(.goto (-53), 3)]) 130 [some (.inr (.inr x0)), some (.inl x1), some (.inl x2), none, none] [] (by decide +kernel) rfl ?_
        exact s_lsub (ls' := [some (.inr (.inr x0)), some (.inl x1), some (.inl x2), none, none]) ⟨rfl, ⟨rfl, ⟨rfl, trivial⟩⟩⟩ (kk1 z8)
      refine s_lookup (off := 41) (tgt := 186) (dflt := 41) (ps := #[(0, 27), (1, 34)]) (len := 27) (by decide +kernel) (by decide) (by show Op.lookupswitch.offset [(0, 27), (1, 34)] 41 _ = _; rw [lv_osw h5 (by decide), lv_osw h7 (by decide)]; rfl) (by decide) ?_
      change Sim l G Y_X12_text lim _ _ 186 [some (.inr (.inr x0)), some (.inl x1), some (.inl x2), none, none] [] M
      refine s_run (b := [(.aload_n 0, 1)]) 187 [some (.inr (.inr x0)), some (.inl x1), some (.inl x2), none, none] [.inr (.inr x0)] (by decide +kernel) rfl ?_
      refine s_cV (Z := Y_X12_logLine) (c := 12) (vs := []) (st := []) (rO := fun _ => none) (mO := fun z => z) zk_X12_logLine zi_X12_logLine q1532 rfl ⟨by decide, by decide⟩ ⟨rfl, rfl⟩ rfl rfl (Nat.le_of_ble_eq_true rfl) (by decide +kernel) (fun z hz => c_X12_logLine hz) (fun z9 => ?_)
      change Sim l G Y_X12_text lim _ _ 190 [some (.inr (.inr x0)), some (.inl x1), some (.inl x2), none, none] [] z9
      refine s_run (b := [(.goto (-60), 3)]) 130 [some (.inr (.inr x0)), some (.inl x1), some (.inl x2), none, none] [] (by decide +kernel) rfl ?_
      exact s_lsub (ls' := [some (.inr (.inr x0)), some (.inl x1), some (.inl x2), none, none]) ⟨rfl, ⟨rfl, ⟨rfl, trivial⟩⟩⟩ (kk1 z9)
  · skip
    exact s_lsub (ls' := [some (.inr (.inr x0)), some (.inl x1), some (.inl x2), none, none]) ⟨rfl, ⟨rfl, ⟨rfl, trivial⟩⟩⟩ (kk2_0 M)
set_option maxRecDepth 20000 in
theorem L_X12_text_130 {l : Launch} {G : Gv} {lim : Nat × Nat} (M : Mem) (x0 : Nat) (x1 : Int32) (x2 : Int32)  (K : ((Mem)) → Option (Option Value × Mem)) (kk2_0 : ∀ r : Mem, SimR l G Y_X12_text lim (K r) 193 [some (.inr (.inr x0)), some (.inl x1), some (.inl x2), none, none] [] r) : Sim l G Y_X12_text lim (f_X12_text_L130 M x0 x1 x2 ) K 130 [some (.inr (.inr x0)), some (.inl x1), some (.inl x2), none, none] [] M :=
  s_iter (f := fun s : Mem => f_X12_text_B130 s x0 x1 x2 ) (hd := 130) (cl := fun s => [some (.inr (.inr x0)), some (.inl x1), some (.inl x2), none, none]) (cm := fun s => s) (xp := fun _ => 193) (xl := fun r => [some (.inr (.inr x0)), some (.inl x1), some (.inl x2), none, none]) (xm := fun r => r) (fun s K h1 h2 => B_X12_text_130 s x0 x1 x2  K (fun a_ => h1 a_) (fun a_ => h2 a_)) 1048576 M K kk2_0
def f_X12_text_B273 (M : Mem) (x0 : Nat) (x1 : Int32) (x3 : Int32) (x4 : Int32) : Option ((Int32 × Mem) ⊕ ((Mem))) :=
  (f_X12_sizeOf M x1).bind fun v1 =>
  (if v1 ≤ x4 then
    some (.inr M)
  else
    (gR M 12 x0 0).bind fun v3 =>
    (f_X12_placeOf M x1 x3).bind fun v4 =>
    (gR M 12 x0 10).bind fun v5 =>
    (aI M 0 v5 x4).bind fun v6 =>
    (sI M 0 v3 (v4 + x4) v6).bind fun M7 =>
    some (.inl ((x4 + (1 : Int32)), M7)))
def f_X12_text_L273 (M : Mem) (x0 : Nat) (x1 : Int32) (x3 : Int32) (x4 : Int32) : Option ((Mem)) := iter (fun s : Int32 × Mem => f_X12_text_B273 s.2 x0 x1 x3 s.1) 1048576 (x4, M)
set_option maxRecDepth 20000 in
theorem B_X12_text_273 {l : Launch} {G : Gv} {lim : Nat × Nat} (M : Mem) (x0 : Nat) (x1 : Int32) (x3 : Int32) (x4 : Int32) (K : (Int32 × Mem) ⊕ ((Mem)) → Option (Option Value × Mem)) (kk1 : ∀ (s4 : Int32) (s_ : Mem), SimR l G Y_X12_text lim (K (.inl (s4, s_))) 273 [some (.inr (.inr x0)), some (.inl x1), none, some (.inl x3), some (.inl s4)] [] s_) (kk2_0 : ∀ (s_ : Mem), SimR l G Y_X12_text lim (K (.inr s_)) 308 [none, none, none, some (.inl x3), none] [] s_) : Sim l G Y_X12_text lim (f_X12_text_B273 M x0 x1 x3 x4) K 273 [some (.inr (.inr x0)), some (.inl x1), none, some (.inl x3), some (.inl x4)] [] M := by
  unfold f_X12_text_B273
  refine s_run (b := [(.iload 4, 2), (.iload_n 1, 1)]) 276 [some (.inr (.inr x0)), some (.inl x1), none, some (.inl x3), some (.inl x4)] [.inl x1, .inl x4] (by decide +kernel) rfl ?_
  refine s_cS (Z := Y_X12_sizeOf) (vs := [.inl x1]) (st := [.inl x4]) (rO := fun z => some (.inl z)) (mO := fun _ => M) zk_X12_sizeOf q1537 q1536 ⟨by decide, by decide⟩ ⟨rfl, rfl⟩ rfl rfl (Nat.le_of_ble_eq_true rfl) (by decide +kernel) (fun z hz => c_X12_sizeOf hz) (fun v1 => ?_)
  change Sim l G Y_X12_text lim _ _ 279 [some (.inr (.inr x0)), some (.inl x1), none, some (.inl x3), some (.inl x4)] [.inl v1, .inl x4] M
  refine s_ic_ge (tgt := 308) (off := 29) (by decide +kernel) (by decide) (fun h2 => ?_) (fun h2 => ?_)
  · skip
    exact s_lsub (ls' := [none, none, none, some (.inl x3), none]) ⟨rfl, trivial⟩ (kk2_0 M)
  · skip
    refine s_run (b := [(.aload_n 0, 1)]) 283 [some (.inr (.inr x0)), some (.inl x1), none, some (.inl x3), some (.inl x4)] [.inr (.inr x0)] (by decide +kernel) rfl ?_
    refine s_gR fl_12_7 rfl (by decide +kernel) (fun v3 => ?_)
    refine s_run (b := [(.iload_n 1, 1), (.iload_n 3, 1)]) 288 [some (.inr (.inr x0)), some (.inl x1), none, some (.inl x3), some (.inl x4)] [.inl x3, .inl x1, .inr (.inr v3)] (by decide +kernel) rfl ?_
    refine s_cS (Z := Y_X12_placeOf) (vs := [.inl x1, .inl x3]) (st := [.inr (.inr v3)]) (rO := fun z => some (.inl z)) (mO := fun _ => M) zk_X12_placeOf q1540 q1539 ⟨by decide, by decide⟩ ⟨rfl, rfl⟩ rfl rfl (Nat.le_of_ble_eq_true rfl) (by decide +kernel) (fun z hz => c_X12_placeOf hz) (fun v4 => ?_)
    change Sim l G Y_X12_text lim _ _ 291 [some (.inr (.inr x0)), some (.inl x1), none, some (.inl x3), some (.inl x4)] [.inl v4, .inr (.inr v3)] M
    refine s_run (b := [(.iload 4, 2), (.iadd, 1), (.aload_n 0, 1)]) 295 [some (.inr (.inr x0)), some (.inl x1), none, some (.inl x3), some (.inl x4)] [.inr (.inr x0), .inl (v4 + x4), .inr (.inr v3)] (by decide +kernel) rfl ?_
    refine s_gR fl_12_17 rfl (by decide +kernel) (fun v5 => ?_)
    refine s_run (b := [(.iload 4, 2)]) 300 [some (.inr (.inr x0)), some (.inl x1), none, some (.inl x3), some (.inl x4)] [.inl x4, .inr (.inr v5), .inl (v4 + x4), .inr (.inr v3)] (by decide +kernel) rfl ?_
    refine s_ia (by decide +kernel) (fun v6 => ?_)
    refine s_is (by decide +kernel) (fun M7 => ?_)
    refine s_run (b := [(.iinc 4 1, 3), (.goto (-32), 3)]) 273 [some (.inr (.inr x0)), some (.inl x1), none, some (.inl x3), some (.inl (x4 + (1 : Int32)))] [] (by decide +kernel) rfl ?_
    exact s_lsub (ls' := [some (.inr (.inr x0)), some (.inl x1), none, some (.inl x3), some (.inl (x4 + (1 : Int32)))]) ⟨rfl, ⟨rfl, ⟨rfl, ⟨rfl, trivial⟩⟩⟩⟩ (kk1 (x4 + (1 : Int32)) M7)
set_option maxRecDepth 20000 in
theorem L_X12_text_273 {l : Launch} {G : Gv} {lim : Nat × Nat} (M : Mem) (x0 : Nat) (x1 : Int32) (x3 : Int32) (x4 : Int32) (K : ((Mem)) → Option (Option Value × Mem)) (kk2_0 : ∀ r : Mem, SimR l G Y_X12_text lim (K r) 308 [none, none, none, some (.inl x3), none] [] r) : Sim l G Y_X12_text lim (f_X12_text_L273 M x0 x1 x3 x4) K 273 [some (.inr (.inr x0)), some (.inl x1), none, some (.inl x3), some (.inl x4)] [] M :=
  s_iter (f := fun s : Int32 × Mem => f_X12_text_B273 s.2 x0 x1 x3 s.1) (hd := 273) (cl := fun s => [some (.inr (.inr x0)), some (.inl x1), none, some (.inl x3), some (.inl s.1)]) (cm := fun s => s.2) (xp := fun _ => 308) (xl := fun r => [none, none, none, some (.inl x3), none]) (xm := fun r => r) (fun s K h1 h2 => B_X12_text_273 s.2 x0 x1 x3 s.1 K (fun a4 a_ => h1 (a4, a_)) (fun a_ => h2 a_)) 1048576 (x4, M) K kk2_0
def f_X12_text_J254 (M : Mem) (x0 : Nat) (x1 : Int32) (x2 : Int32) (y0 : Int32) : Option (Int32 × Mem) :=
  (if x2 = (-1 : Int32) then
    (gR M 12 x0 0).bind fun v2 =>
    (aI M 0 v2 x1).bind fun v3 =>
    (sI M 0 v2 x1 (v3 + (1 : Int32))).bind fun M4 =>
    (f_X12_text_L273 M4 x0 x1 y0 (0 : Int32)).bind fun r5 =>
    some (y0, r5)
  else
    (f_X12_text_L273 M x0 x1 y0 (0 : Int32)).bind fun r6 =>
    some (y0, r6))
set_option maxRecDepth 20000 in
theorem J_X12_text_254 {l : Launch} {G : Gv} {lim : Nat × Nat} (M : Mem) (x0 : Nat) (x1 : Int32) (x2 : Int32) (y0 : Int32)  : Sim l G Y_X12_text lim (f_X12_text_J254 M x0 x1 x2 y0) (fun z => some (some (.int z.1), z.2)) 254 [some (.inr (.inr x0)), some (.inl x1), some (.inl x2), none, none] [.inl y0] M := by
  unfold f_X12_text_J254
  refine s_run (b := [(.istore_n 3, 1), (.iload_n 2, 1), (.iconst (-1), 1)]) 257 [some (.inr (.inr x0)), some (.inl x1), some (.inl x2), some (.inl y0), none] [.inl (-1 : Int32), .inl x2] (by decide +kernel) rfl ?_
  refine s_ic_ne (tgt := 270) (off := 13) (by decide +kernel) (by decide) (fun h1 => ?_) (fun h1 => ?_)
  · skip
    refine s_run (b := [(.aload_n 0, 1)]) 261 [some (.inr (.inr x0)), some (.inl x1), some (.inl x2), some (.inl y0), none] [.inr (.inr x0)] (by decide +kernel) rfl ?_
    refine s_gR fl_12_7 rfl (by decide +kernel) (fun v2 => ?_)
    refine s_run (b := [(.iload_n 1, 1), (.dup2, 1)]) 266 [some (.inr (.inr x0)), some (.inl x1), some (.inl x2), some (.inl y0), none] [.inl x1, .inr (.inr v2), .inl x1, .inr (.inr v2)] (by decide +kernel) rfl ?_
    refine s_ia (by decide +kernel) (fun v3 => ?_)
    refine s_run (b := [(.iconst 1, 1), (.iadd, 1)]) 269 [some (.inr (.inr x0)), some (.inl x1), some (.inl x2), some (.inl y0), none] [.inl (v3 + (1 : Int32)), .inl x1, .inr (.inr v2)] (by decide +kernel) rfl ?_
    refine s_is (by decide +kernel) (fun M4 => ?_)
    refine s_run (b := [(.iconst 0, 1), (.istore 4, 2)]) 273 [some (.inr (.inr x0)), some (.inl x1), some (.inl x2), some (.inl y0), some (.inl (0 : Int32))] [] (by decide +kernel) rfl ?_
    refine s_lsub (ls' := [some (.inr (.inr x0)), some (.inl x1), none, some (.inl y0), some (.inl (0 : Int32))]) ⟨rfl, ⟨rfl, ⟨rfl, ⟨rfl, trivial⟩⟩⟩⟩ ?_
    refine sim_bind (L_X12_text_273 M4 x0 x1 y0 (0 : Int32) _ (fun r5 => ?_))
    change Sim l G Y_X12_text lim _ _ 308 [none, none, none, some (.inl y0), none] [] r5
    refine s_run (b := [(.iload_n 3, 1)]) 309 [none, none, none, some (.inl y0), none] [.inl y0] (by decide +kernel) rfl ?_
    exact s_iret (by decide +kernel) rfl
  · skip
    refine s_run (b := [(.iconst 0, 1), (.istore 4, 2)]) 273 [some (.inr (.inr x0)), some (.inl x1), some (.inl x2), some (.inl y0), some (.inl (0 : Int32))] [] (by decide +kernel) rfl ?_
    refine s_lsub (ls' := [some (.inr (.inr x0)), some (.inl x1), none, some (.inl y0), some (.inl (0 : Int32))]) ⟨rfl, ⟨rfl, ⟨rfl, ⟨rfl, trivial⟩⟩⟩⟩ ?_
    refine sim_bind (L_X12_text_273 M x0 x1 y0 (0 : Int32) _ (fun r6 => ?_))
    change Sim l G Y_X12_text lim _ _ 308 [none, none, none, some (.inl y0), none] [] r6
    refine s_run (b := [(.iload_n 3, 1)]) 309 [none, none, none, some (.inl y0), none] [.inl y0] (by decide +kernel) rfl ?_
    exact s_iret (by decide +kernel) rfl
def f_X12_text_J228 (M : Mem) (x0 : Nat) (x1 : Int32) (x2 : Int32)  : Option (Int32 × Mem) :=
  (gR M 12 x0 0).bind fun v1 =>
  (aI M 0 v1 (5 : Int32)).bind fun v2 =>
  (if v2 = 0 then
    (if x2 = (-1 : Int32) then
      (gR M 12 x0 0).bind fun v5 =>
      (aI M 0 v5 x1).bind fun v6 =>
      f_X12_text_J254 M x0 x1 x2 v6
    else
      f_X12_text_J254 M x0 x1 x2 x2)
  else
    some ((-1 : Int32), M))
set_option maxRecDepth 20000 in
theorem J_X12_text_228 {l : Launch} {G : Gv} {lim : Nat × Nat} (M : Mem) (x0 : Nat) (x1 : Int32) (x2 : Int32)   : Sim l G Y_X12_text lim (f_X12_text_J228 M x0 x1 x2) (fun z => some (some (.int z.1), z.2)) 228 [some (.inr (.inr x0)), some (.inl x1), some (.inl x2), none, none] [] M := by
  unfold f_X12_text_J228
  refine s_run (b := [(.aload_n 0, 1)]) 229 [some (.inr (.inr x0)), some (.inl x1), some (.inl x2), none, none] [.inr (.inr x0)] (by decide +kernel) rfl ?_
  refine s_gR fl_12_7 rfl (by decide +kernel) (fun v1 => ?_)
  refine s_run (b := [(.iconst 5, 1)]) 233 [some (.inr (.inr x0)), some (.inl x1), some (.inl x2), none, none] [.inl (5 : Int32), .inr (.inr v1)] (by decide +kernel) rfl ?_
  refine s_ia (by decide +kernel) (fun v2 => ?_)
  refine s_if_eq (tgt := 239) (off := 5) (by decide +kernel) (by decide) (fun h3 => ?_) (fun h3 => ?_)
  · skip
    refine s_run (b := [(.iload_n 2, 1), (.iconst (-1), 1)]) 241 [some (.inr (.inr x0)), some (.inl x1), some (.inl x2), none, none] [.inl (-1 : Int32), .inl x2] (by decide +kernel) rfl ?_
    refine s_ic_ne (tgt := 253) (off := 12) (by decide +kernel) (by decide) (fun h4 => ?_) (fun h4 => ?_)
    · skip
      refine s_run (b := [(.aload_n 0, 1)]) 245 [some (.inr (.inr x0)), some (.inl x1), some (.inl x2), none, none] [.inr (.inr x0)] (by decide +kernel) rfl ?_
      refine s_gR fl_12_7 rfl (by decide +kernel) (fun v5 => ?_)
      refine s_run (b := [(.iload_n 1, 1)]) 249 [some (.inr (.inr x0)), some (.inl x1), some (.inl x2), none, none] [.inl x1, .inr (.inr v5)] (by decide +kernel) rfl ?_
      refine s_ia (by decide +kernel) (fun v6 => ?_)
      refine s_run (b := [(.goto 4, 3)]) 254 [some (.inr (.inr x0)), some (.inl x1), some (.inl x2), none, none] [.inl v6] (by decide +kernel) rfl ?_
      exact s_lsub (ls' := [some (.inr (.inr x0)), some (.inl x1), some (.inl x2), none, none]) ⟨rfl, ⟨rfl, ⟨rfl, trivial⟩⟩⟩ (J_X12_text_254 M x0 x1 x2 v6)
    · skip
      refine s_run (b := [(.iload_n 2, 1)]) 254 [some (.inr (.inr x0)), some (.inl x1), some (.inl x2), none, none] [.inl x2] (by decide +kernel) rfl ?_
      exact s_lsub (ls' := [some (.inr (.inr x0)), some (.inl x1), some (.inl x2), none, none]) ⟨rfl, ⟨rfl, ⟨rfl, trivial⟩⟩⟩ (J_X12_text_254 M x0 x1 x2 x2)
  · skip
    refine s_run (b := [(.iconst (-1), 1)]) 238 [some (.inr (.inr x0)), some (.inl x1), some (.inl x2), none, none] [.inl (-1 : Int32)] (by decide +kernel) rfl ?_
    exact s_iret (by decide +kernel) rfl
def f_X12_text_J126 (M : Mem) (x0 : Nat) (x1 : Int32) (x2 : Int32)  : Option (Int32 × Mem) :=
  (ob M 12 x0).bind fun _ => (f_X12_advance M x0).bind fun z1 =>
  (f_X12_text_L130 z1 x0 x1 x2 ).bind fun r2 =>
  (gR r2 12 x0 0).bind fun v3 =>
  (aI r2 0 v3 (5 : Int32)).bind fun v4 =>
  (if v4 = 0 then
    (if x1 = 0 then
      (gI r2 12 x0 9).bind fun v7 =>
      (gR r2 12 x0 10).bind fun v8 =>
      (aI r2 0 v8 (0 : Int32)).bind fun v9 =>
      (if v7 < v9 then
        f_X12_text_J228 r2 x0 x1 x2 
      else
        (gI r2 12 x0 4).bind fun v11 =>
        (ob r2 12 x0).bind fun _ => (f_X12_also r2 x0 (4 : Int32) v11).bind fun z12 =>
        f_X12_text_J228 z12 x0 x1 x2 )
    else
      f_X12_text_J228 r2 x0 x1 x2 )
  else
    f_X12_text_J228 r2 x0 x1 x2 )
set_option maxRecDepth 20000 in
theorem J_X12_text_126 {l : Launch} {G : Gv} {lim : Nat × Nat} (M : Mem) (x0 : Nat) (x1 : Int32) (x2 : Int32)   : Sim l G Y_X12_text lim (f_X12_text_J126 M x0 x1 x2) (fun z => some (some (.int z.1), z.2)) 126 [some (.inr (.inr x0)), some (.inl x1), some (.inl x2), none, none] [] M := by
  unfold f_X12_text_J126
  refine s_run (b := [(.aload_n 0, 1)]) 127 [some (.inr (.inr x0)), some (.inl x1), some (.inl x2), none, none] [.inr (.inr x0)] (by decide +kernel) rfl ?_
  refine s_cV (Z := Y_X12_advance) (c := 12) (vs := []) (st := []) (rO := fun _ => none) (mO := fun z => z) zk_X12_advance zi_X12_advance q1470 rfl ⟨by decide, by decide⟩ ⟨rfl, rfl⟩ rfl rfl (Nat.le_of_ble_eq_true rfl) (by decide +kernel) (fun z hz => c_X12_advance hz) (fun z1 => ?_)
  change Sim l G Y_X12_text lim _ _ 130 [some (.inr (.inr x0)), some (.inl x1), some (.inl x2), none, none] [] z1
  refine s_lsub (ls' := [some (.inr (.inr x0)), some (.inl x1), some (.inl x2), none, none]) ⟨rfl, ⟨rfl, ⟨rfl, trivial⟩⟩⟩ ?_
  refine sim_bind (L_X12_text_130 z1 x0 x1 x2  _ (fun r2 => ?_))
  change Sim l G Y_X12_text lim _ _ 193 [some (.inr (.inr x0)), some (.inl x1), some (.inl x2), none, none] [] r2
  refine s_run (b := [(.aload_n 0, 1)]) 194 [some (.inr (.inr x0)), some (.inl x1), some (.inl x2), none, none] [.inr (.inr x0)] (by decide +kernel) rfl ?_
  refine s_gR fl_12_7 rfl (by decide +kernel) (fun v3 => ?_)
  refine s_run (b := [(.iconst 5, 1)]) 198 [some (.inr (.inr x0)), some (.inl x1), some (.inl x2), none, none] [.inl (5 : Int32), .inr (.inr v3)] (by decide +kernel) rfl ?_
  refine s_ia (by decide +kernel) (fun v4 => ?_)
  refine s_if_ne (tgt := 228) (off := 29) (by decide +kernel) (by decide) (fun h5 => ?_) (fun h5 => ?_)
  · skip
    refine s_run (b := [(.iload_n 1, 1)]) 203 [some (.inr (.inr x0)), some (.inl x1), some (.inl x2), none, none] [.inl x1] (by decide +kernel) rfl ?_
    refine s_if_ne (tgt := 228) (off := 25) (by decide +kernel) (by decide) (fun h6 => ?_) (fun h6 => ?_)
    · skip
      refine s_run (b := [(.aload_n 0, 1)]) 207 [some (.inr (.inr x0)), some (.inl x1), some (.inl x2), none, none] [.inr (.inr x0)] (by decide +kernel) rfl ?_
      refine s_gI fl_12_124 rfl (by decide +kernel) (fun v7 => ?_)
      refine s_run (b := [(.aload_n 0, 1)]) 211 [some (.inr (.inr x0)), some (.inl x1), some (.inl x2), none, none] [.inr (.inr x0), .inl v7] (by decide +kernel) rfl ?_
      refine s_gR fl_12_17 rfl (by decide +kernel) (fun v8 => ?_)
      refine s_run (b := [(.iconst 0, 1)]) 215 [some (.inr (.inr x0)), some (.inl x1), some (.inl x2), none, none] [.inl (0 : Int32), .inr (.inr v8), .inl v7] (by decide +kernel) rfl ?_
      refine s_ia (by decide +kernel) (fun v9 => ?_)
      refine s_ic_lt (tgt := 228) (off := 12) (by decide +kernel) (by decide) (fun h10 => ?_) (fun h10 => ?_)
      · skip
        exact s_lsub (ls' := [some (.inr (.inr x0)), some (.inl x1), some (.inl x2), none, none]) ⟨rfl, ⟨rfl, ⟨rfl, trivial⟩⟩⟩ (J_X12_text_228 r2 x0 x1 x2 )
      · skip
        refine s_run (b := [(.aload_n 0, 1), (.iconst 4, 1), (.aload_n 0, 1)]) 222 [some (.inr (.inr x0)), some (.inl x1), some (.inl x2), none, none] [.inr (.inr x0), .inl (4 : Int32), .inr (.inr x0)] (by decide +kernel) rfl ?_
        refine s_gI fl_12_75 rfl (by decide +kernel) (fun v11 => ?_)
        refine s_cV (Z := Y_X12_also) (c := 12) (vs := [.inl (4 : Int32), .inl v11]) (st := []) (rO := fun _ => none) (mO := fun z => z) zk_X12_also zi_X12_also q1512 rfl ⟨by decide, by decide⟩ ⟨rfl, rfl⟩ rfl rfl (Nat.le_of_ble_eq_true rfl) (by decide +kernel) (fun z hz => c_X12_also hz) (fun z12 => ?_)
        change Sim l G Y_X12_text lim _ _ 228 [some (.inr (.inr x0)), some (.inl x1), some (.inl x2), none, none] [] z12
        exact s_lsub (ls' := [some (.inr (.inr x0)), some (.inl x1), some (.inl x2), none, none]) ⟨rfl, ⟨rfl, ⟨rfl, trivial⟩⟩⟩ (J_X12_text_228 z12 x0 x1 x2 )
    · skip
      exact s_lsub (ls' := [some (.inr (.inr x0)), some (.inl x1), some (.inl x2), none, none]) ⟨rfl, ⟨rfl, ⟨rfl, trivial⟩⟩⟩ (J_X12_text_228 r2 x0 x1 x2 )
  · skip
    exact s_lsub (ls' := [some (.inr (.inr x0)), some (.inl x1), some (.inl x2), none, none]) ⟨rfl, ⟨rfl, ⟨rfl, trivial⟩⟩⟩ (J_X12_text_228 r2 x0 x1 x2 )
def f_X12_text_J71 (M : Mem) (x0 : Nat) (x1 : Int32) (x2 : Int32)  : Option (Int32 × Mem) :=
  (pI M 12 x0 3 (0 : Int32)).bind fun M1 =>
  (pZ M1 12 x0 8 (0 : Int32)).bind fun M2 =>
  (pI M2 12 x0 9 (-1 : Int32)).bind fun M3 =>
  (f_X12_text_L88 M3 x0 x1 x2 (0 : Int32)).bind fun r4 =>
  (if x1 = 0 then
    (gR r4 12 x0 10).bind fun v6 =>
    (sI r4 0 v6 (2 : Int32) (10 : Int32)).bind fun M7 =>
    (gR M7 12 x0 10).bind fun v8 =>
    (sI M7 0 v8 (4 : Int32) (1 : Int32)).bind fun M9 =>
    f_X12_text_J126 M9 x0 x1 x2 
  else
    f_X12_text_J126 r4 x0 x1 x2 )
set_option maxRecDepth 20000 in
theorem J_X12_text_71 {l : Launch} {G : Gv} {lim : Nat × Nat} (M : Mem) (x0 : Nat) (x1 : Int32) (x2 : Int32)   : Sim l G Y_X12_text lim (f_X12_text_J71 M x0 x1 x2) (fun z => some (some (.int z.1), z.2)) 71 [some (.inr (.inr x0)), some (.inl x1), some (.inl x2), none, none] [] M := by
  unfold f_X12_text_J71
  refine s_run (b := [(.aload_n 0, 1), (.iconst 0, 1)]) 73 [some (.inr (.inr x0)), some (.inl x1), some (.inl x2), none, none] [.inl (0 : Int32), .inr (.inr x0)] (by decide +kernel) rfl ?_
  refine s_pI fl_12_68 (Or.inl rfl) rfl (by decide +kernel) (fun M1 => ?_)
  refine s_run (b := [(.aload_n 0, 1), (.iconst 0, 1)]) 78 [some (.inr (.inr x0)), some (.inl x1), some (.inl x2), none, none] [.inl (0 : Int32), .inr (.inr x0)] (by decide +kernel) rfl ?_
  refine s_pZ fl_12_102 (Or.inl rfl) rfl (by decide +kernel) (fun M2 => ?_)
  refine s_run (b := [(.aload_n 0, 1), (.iconst (-1), 1)]) 83 [some (.inr (.inr x0)), some (.inl x1), some (.inl x2), none, none] [.inl (-1 : Int32), .inr (.inr x0)] (by decide +kernel) rfl ?_
  refine s_pI fl_12_124 (Or.inl rfl) rfl (by decide +kernel) (fun M3 => ?_)
  refine s_run (b := [(.iconst 0, 1), (.istore_n 3, 1)]) 88 [some (.inr (.inr x0)), some (.inl x1), some (.inl x2), some (.inl (0 : Int32)), none] [] (by decide +kernel) rfl ?_
  refine s_lsub (ls' := [some (.inr (.inr x0)), some (.inl x1), some (.inl x2), some (.inl (0 : Int32)), none]) ⟨rfl, ⟨rfl, ⟨rfl, ⟨rfl, trivial⟩⟩⟩⟩ ?_
  refine sim_bind (L_X12_text_88 M3 x0 x1 x2 (0 : Int32) _ (fun r4 => ?_))
  change Sim l G Y_X12_text lim _ _ 107 [some (.inr (.inr x0)), some (.inl x1), some (.inl x2), none, none] [] r4
  refine s_run (b := [(.iload_n 1, 1)]) 108 [some (.inr (.inr x0)), some (.inl x1), some (.inl x2), none, none] [.inl x1] (by decide +kernel) rfl ?_
  refine s_if_ne (tgt := 126) (off := 18) (by decide +kernel) (by decide) (fun h5 => ?_) (fun h5 => ?_)
  · skip
    refine s_run (b := [(.aload_n 0, 1)]) 112 [some (.inr (.inr x0)), some (.inl x1), some (.inl x2), none, none] [.inr (.inr x0)] (by decide +kernel) rfl ?_
    refine s_gR fl_12_17 rfl (by decide +kernel) (fun v6 => ?_)
    refine s_run (b := [(.iconst 2, 1), (.bipush 10, 2)]) 118 [some (.inr (.inr x0)), some (.inl x1), some (.inl x2), none, none] [.inl (10 : Int32), .inl (2 : Int32), .inr (.inr v6)] (by decide +kernel) rfl ?_
    refine s_is (by decide +kernel) (fun M7 => ?_)
    refine s_run (b := [(.aload_n 0, 1)]) 120 [some (.inr (.inr x0)), some (.inl x1), some (.inl x2), none, none] [.inr (.inr x0)] (by decide +kernel) rfl ?_
    refine s_gR fl_12_17 rfl (by decide +kernel) (fun v8 => ?_)
    refine s_run (b := [(.iconst 4, 1), (.iconst 1, 1)]) 125 [some (.inr (.inr x0)), some (.inl x1), some (.inl x2), none, none] [.inl (1 : Int32), .inl (4 : Int32), .inr (.inr v8)] (by decide +kernel) rfl ?_
    refine s_is (by decide +kernel) (fun M9 => ?_)
    exact s_lsub (ls' := [some (.inr (.inr x0)), some (.inl x1), some (.inl x2), none, none]) ⟨rfl, ⟨rfl, ⟨rfl, trivial⟩⟩⟩ (J_X12_text_126 M9 x0 x1 x2 )
  · skip
    exact s_lsub (ls' := [some (.inr (.inr x0)), some (.inl x1), some (.inl x2), none, none]) ⟨rfl, ⟨rfl, ⟨rfl, trivial⟩⟩⟩ (J_X12_text_126 r4 x0 x1 x2 )
def f_X12_text (M : Mem) (x0 : Nat) (x1 : Int32) (x2 : Int32) : Option (Int32 × Mem) :=
  (gR M 12 x0 0).bind fun v1 =>
  (aI M 0 v1 (4 : Int32)).bind fun v2 =>
  (pI M 12 x0 2 v2).bind fun M3 =>
  (gR M3 12 x0 0).bind fun v4 =>
  (sI M3 0 v4 (4 : Int32) (0 : Int32)).bind fun M5 =>
  (gR M5 12 x0 0).bind fun v6 =>
  (sI M5 0 v6 (5 : Int32) (0 : Int32)).bind fun M7 =>
  (gR M7 12 x0 0).bind fun v8 =>
  (sI M7 0 v8 (6 : Int32) (-1 : Int32)).bind fun M9 =>
  (f_X12_isIn M9 x1 (0 : Int32) (2 : Int32)).bind fun v10 =>
  (if v10 = 0 then
    some ((-2 : Int32), M9)
  else
    (if x2 = (-1 : Int32) then
      (gR M9 12 x0 0).bind fun v13 =>
      (aI M9 0 v13 x1).bind fun v14 =>
      (if v14 < (2 : Int32) then
        f_X12_text_J71 M9 x0 x1 x2 
      else
        some ((-2 : Int32), M9))
    else
      (ob M9 12 x0).bind fun _ => (f_X12_isOf M9 x0 x1 x2).bind fun v16 =>
      (if v16 = 0 then
        some ((-2 : Int32), M9)
      else
        f_X12_text_J71 M9 x0 x1 x2 )))
set_option maxRecDepth 20000 in
theorem S_X12_text {l : Launch} {G : Gv} {lim : Nat × Nat} (M : Mem) (x0 : Nat) (x1 : Int32) (x2 : Int32) : Sim l G Y_X12_text lim (f_X12_text M x0 x1 x2) (fun z => some (some (.int z.1), z.2)) 0 [some (.inr (.inr x0)), some (.inl x1), some (.inl x2), none, none] [] M := by
  unfold f_X12_text
  refine s_run (b := [(.aload_n 0, 1), (.aload_n 0, 1)]) 2 [some (.inr (.inr x0)), some (.inl x1), some (.inl x2), none, none] [.inr (.inr x0), .inr (.inr x0)] (by decide +kernel) rfl ?_
  refine s_gR fl_12_7 rfl (by decide +kernel) (fun v1 => ?_)
  refine s_run (b := [(.iconst 4, 1)]) 6 [some (.inr (.inr x0)), some (.inl x1), some (.inl x2), none, none] [.inl (4 : Int32), .inr (.inr v1), .inr (.inr x0)] (by decide +kernel) rfl ?_
  refine s_ia (by decide +kernel) (fun v2 => ?_)
  refine s_pI fl_12_54 (Or.inl rfl) rfl (by decide +kernel) (fun M3 => ?_)
  refine s_run (b := [(.aload_n 0, 1)]) 11 [some (.inr (.inr x0)), some (.inl x1), some (.inl x2), none, none] [.inr (.inr x0)] (by decide +kernel) rfl ?_
  refine s_gR fl_12_7 rfl (by decide +kernel) (fun v4 => ?_)
  refine s_run (b := [(.iconst 4, 1), (.iconst 0, 1)]) 16 [some (.inr (.inr x0)), some (.inl x1), some (.inl x2), none, none] [.inl (0 : Int32), .inl (4 : Int32), .inr (.inr v4)] (by decide +kernel) rfl ?_
  refine s_is (by decide +kernel) (fun M5 => ?_)
  refine s_run (b := [(.aload_n 0, 1)]) 18 [some (.inr (.inr x0)), some (.inl x1), some (.inl x2), none, none] [.inr (.inr x0)] (by decide +kernel) rfl ?_
  refine s_gR fl_12_7 rfl (by decide +kernel) (fun v6 => ?_)
  refine s_run (b := [(.iconst 5, 1), (.iconst 0, 1)]) 23 [some (.inr (.inr x0)), some (.inl x1), some (.inl x2), none, none] [.inl (0 : Int32), .inl (5 : Int32), .inr (.inr v6)] (by decide +kernel) rfl ?_
  refine s_is (by decide +kernel) (fun M7 => ?_)
  refine s_run (b := [(.aload_n 0, 1)]) 25 [some (.inr (.inr x0)), some (.inl x1), some (.inl x2), none, none] [.inr (.inr x0)] (by decide +kernel) rfl ?_
  refine s_gR fl_12_7 rfl (by decide +kernel) (fun v8 => ?_)
  refine s_run (b := [(.bipush 6, 2), (.iconst (-1), 1)]) 31 [some (.inr (.inr x0)), some (.inl x1), some (.inl x2), none, none] [.inl (-1 : Int32), .inl (6 : Int32), .inr (.inr v8)] (by decide +kernel) rfl ?_
  refine s_is (by decide +kernel) (fun M9 => ?_)
  refine s_run (b := [(.iload_n 1, 1), (.iconst 0, 1), (.iconst 2, 1)]) 35 [some (.inr (.inr x0)), some (.inl x1), some (.inl x2), none, none] [.inl (2 : Int32), .inl (0 : Int32), .inl x1] (by decide +kernel) rfl ?_
  refine s_cS (Z := Y_X12_isIn) (vs := [.inl x1, .inl (0 : Int32), .inl (2 : Int32)]) (st := []) (rO := fun z => some (.inl z)) (mO := fun _ => M9) zk_X12_isIn q1464 q1463 ⟨by decide, by decide⟩ ⟨rfl, rfl⟩ rfl rfl (Nat.le_of_ble_eq_true rfl) (by decide +kernel) (fun z hz => c_X12_isIn hz) (fun v10 => ?_)
  change Sim l G Y_X12_text lim _ _ 38 [some (.inr (.inr x0)), some (.inl x1), some (.inl x2), none, none] [.inl v10] M9
  refine s_if_eq (tgt := 68) (off := 30) (by decide +kernel) (by decide) (fun h11 => ?_) (fun h11 => ?_)
  · skip
    refine s_run (b := [(.bipush (-2), 2)]) 70 [some (.inr (.inr x0)), some (.inl x1), some (.inl x2), none, none] [.inl (-2 : Int32)] (by decide +kernel) rfl ?_
    exact s_iret (by decide +kernel) rfl
  · skip
    refine s_run (b := [(.iload_n 2, 1), (.iconst (-1), 1)]) 43 [some (.inr (.inr x0)), some (.inl x1), some (.inl x2), none, none] [.inl (-1 : Int32), .inl x2] (by decide +kernel) rfl ?_
    refine s_ic_ne (tgt := 59) (off := 16) (by decide +kernel) (by decide) (fun h12 => ?_) (fun h12 => ?_)
    · skip
      refine s_run (b := [(.aload_n 0, 1)]) 47 [some (.inr (.inr x0)), some (.inl x1), some (.inl x2), none, none] [.inr (.inr x0)] (by decide +kernel) rfl ?_
      refine s_gR fl_12_7 rfl (by decide +kernel) (fun v13 => ?_)
      refine s_run (b := [(.iload_n 1, 1)]) 51 [some (.inr (.inr x0)), some (.inl x1), some (.inl x2), none, none] [.inl x1, .inr (.inr v13)] (by decide +kernel) rfl ?_
      refine s_ia (by decide +kernel) (fun v14 => ?_)
      refine s_run (b := [(.iconst 2, 1)]) 53 [some (.inr (.inr x0)), some (.inl x1), some (.inl x2), none, none] [.inl (2 : Int32), .inl v14] (by decide +kernel) rfl ?_
      refine s_ic_lt (tgt := 71) (off := 18) (by decide +kernel) (by decide) (fun h15 => ?_) (fun h15 => ?_)
      · skip
        exact s_lsub (ls' := [some (.inr (.inr x0)), some (.inl x1), some (.inl x2), none, none]) ⟨rfl, ⟨rfl, ⟨rfl, trivial⟩⟩⟩ (J_X12_text_71 M9 x0 x1 x2 )
      · skip
        refine s_run (b := [(.goto 12, 3), (.bipush (-2), 2)]) 70 [some (.inr (.inr x0)), some (.inl x1), some (.inl x2), none, none] [.inl (-2 : Int32)] (by decide +kernel) rfl ?_
        exact s_iret (by decide +kernel) rfl
    · skip
      refine s_run (b := [(.aload_n 0, 1), (.iload_n 1, 1), (.iload_n 2, 1)]) 62 [some (.inr (.inr x0)), some (.inl x1), some (.inl x2), none, none] [.inl x2, .inl x1, .inr (.inr x0)] (by decide +kernel) rfl ?_
      refine s_cV (Z := Y_X12_isOf) (c := 12) (vs := [.inl x1, .inl x2]) (st := []) (rO := fun z => some (.inl z)) (mO := fun _ => M9) zk_X12_isOf zi_X12_isOf q1466 rfl ⟨by decide, by decide⟩ ⟨rfl, rfl⟩ rfl rfl (Nat.le_of_ble_eq_true rfl) (by decide +kernel) (fun z hz => c_X12_isOf hz) (fun v16 => ?_)
      change Sim l G Y_X12_text lim _ _ 65 [some (.inr (.inr x0)), some (.inl x1), some (.inl x2), none, none] [.inl v16] M9
      refine s_if_ne (tgt := 71) (off := 6) (by decide +kernel) (by decide) (fun h17 => ?_) (fun h17 => ?_)
      · skip
        refine s_run (b := [(.bipush (-2), 2)]) 70 [some (.inr (.inr x0)), some (.inl x1), some (.inl x2), none, none] [.inl (-2 : Int32)] (by decide +kernel) rfl ?_
        exact s_iret (by decide +kernel) rfl
      · skip
        exact s_lsub (ls' := [some (.inr (.inr x0)), some (.inl x1), some (.inl x2), none, none]) ⟨rfl, ⟨rfl, ⟨rfl, trivial⟩⟩⟩ (J_X12_text_71 M9 x0 x1 x2 )
set_option maxRecDepth 20000 in
theorem c_X12_text {l : Launch} {G : Gv} {M : Mem} {x0 : Nat} {x1 : Int32} {x2 : Int32} {z : Int32 × Mem} (h : f_X12_text M x0 x1 x2 = some z) : MetS l G Y_X12_text [.inr (.inr x0), .inl x1, .inl x2] M (some (.int z.1)) z.2 :=
  met_of (ls0 := [some (.inr (.inr x0)), some (.inl x1), some (.inl x2), none, none]) (by decide) rfl (lv_in (m := 2) rfl) (sl_le (Nat.le_of_ble_eq_true rfl)) (by rw [h]; rfl) (Or.inl ⟨rfl, rfl⟩) (S_X12_text M x0 x1 x2)
def f_X12_tied_B49 (M : Mem) (x0 : Nat) (x2 : Int32) (x3 : Int32) (x4 : Int32) (x5 : Int32) : Option ((Int32 × Int32) ⊕ ((Int32))) :=
  (gI M 12 x0 12).bind fun v1 =>
  (if v1 ≤ x5 then
    some (.inr x4)
  else
    (gI M 12 x0 16).bind fun v3 =>
    (if v3 = (-1 : Int32) then
      some (.inl ((x4 ||| (0 : Int32)), (x5 + (1 : Int32))))
    else
      (f_X12_holds M x3 x5).bind fun v5 =>
      (if v5 = 0 then
        some (.inl ((x4 ||| (0 : Int32)), (x5 + (1 : Int32))))
      else
        (ob M 12 x0).bind fun _ => (f_X12_hears M x0 x5 x2).bind fun v7 =>
        (if v7 = 0 then
          some (.inl ((x4 ||| (0 : Int32)), (x5 + (1 : Int32))))
        else
          (ob M 12 x0).bind fun _ => (f_X12_ringOf M x0 x5 x2 x3).bind fun v9 =>
          (gI M 12 x0 17).bind fun v10 =>
          (if v9 = v10 then
            some (.inl ((x4 ||| ((1 : Int32) <<< (x5 &&& 31))), (x5 + (1 : Int32))))
          else
            some (.inl ((x4 ||| (0 : Int32)), (x5 + (1 : Int32)))))))))
def f_X12_tied_L49 (M : Mem) (x0 : Nat) (x2 : Int32) (x3 : Int32) (x4 : Int32) (x5 : Int32) : Option ((Int32)) := iter (fun s : Int32 × Int32 => f_X12_tied_B49 M x0 x2 x3 s.1 s.2) 1048576 (x4, x5)
set_option maxRecDepth 20000 in
theorem B_X12_tied_49 {l : Launch} {G : Gv} {lim : Nat × Nat} (M : Mem) (x0 : Nat) (x2 : Int32) (x3 : Int32) (x4 : Int32) (x5 : Int32) (K : (Int32 × Int32) ⊕ ((Int32)) → Option (Option Value × Mem)) (kk1 : ∀ (s4 : Int32) (s5 : Int32), SimR l G Y_X12_tied lim (K (.inl (s4, s5))) 49 [some (.inr (.inr x0)), none, some (.inl x2), some (.inl x3), some (.inl s4), some (.inl s5)] [] M) (kk2_0 : ∀ (s4 : Int32), SimR l G Y_X12_tied lim (K (.inr s4)) 119 [none, none, none, none, some (.inl s4), none] [] M) : Sim l G Y_X12_tied lim (f_X12_tied_B49 M x0 x2 x3 x4 x5) K 49 [some (.inr (.inr x0)), none, some (.inl x2), some (.inl x3), some (.inl x4), some (.inl x5)] [] M := by
  unfold f_X12_tied_B49
  refine s_run (b := [(.iload 5, 2), (.aload_n 0, 1)]) 52 [some (.inr (.inr x0)), none, some (.inl x2), some (.inl x3), some (.inl x4), some (.inl x5)] [.inr (.inr x0), .inl x5] (by decide +kernel) rfl ?_
  refine s_gI fl_12_162 rfl (by decide +kernel) (fun v1 => ?_)
  refine s_ic_ge (tgt := 119) (off := 64) (by decide +kernel) (by decide) (fun h2 => ?_) (fun h2 => ?_)
  · skip
    exact s_lsub (ls' := [none, none, none, none, some (.inl x4), none]) ⟨rfl, trivial⟩ (kk2_0 x4)
  · skip
    refine s_run (b := [(.iload 4, 2), (.aload_n 0, 1)]) 61 [some (.inr (.inr x0)), none, some (.inl x2), some (.inl x3), some (.inl x4), some (.inl x5)] [.inr (.inr x0), .inl x4] (by decide +kernel) rfl ?_
    refine s_gI fl_12_195 rfl (by decide +kernel) (fun v3 => ?_)
    refine s_run (b := [(.iconst (-1), 1)]) 65 [some (.inr (.inr x0)), none, some (.inl x2), some (.inl x3), some (.inl x4), some (.inl x5)] [.inl (-1 : Int32), .inl v3, .inl x4] (by decide +kernel) rfl ?_
    refine s_ic_eq (tgt := 109) (off := 44) (by decide +kernel) (by decide) (fun h4 => ?_) (fun h4 => ?_)
    · skip
      refine s_run (b := [(.iconst 0, 1), (.ior, 1), (.istore 4, 2), (.iinc 5 1, 3), (.goto (-67), 3)]) 49 [some (.inr (.inr x0)), none, some (.inl x2), some (.inl x3), some (.inl (x4 ||| (0 : Int32))), some (.inl (x5 + (1 : Int32)))] [] (by decide +kernel) rfl ?_
      exact s_lsub (ls' := [some (.inr (.inr x0)), none, some (.inl x2), some (.inl x3), some (.inl (x4 ||| (0 : Int32))), some (.inl (x5 + (1 : Int32)))]) ⟨rfl, ⟨rfl, ⟨rfl, ⟨rfl, ⟨rfl, trivial⟩⟩⟩⟩⟩ (kk1 (x4 ||| (0 : Int32)) (x5 + (1 : Int32)))
    · skip
      refine s_run (b := [(.iload_n 3, 1), (.iload 5, 2)]) 71 [some (.inr (.inr x0)), none, some (.inl x2), some (.inl x3), some (.inl x4), some (.inl x5)] [.inl x5, .inl x3, .inl x4] (by decide +kernel) rfl ?_
      refine s_cS (Z := Y_X12_holds) (vs := [.inl x3, .inl x5]) (st := [.inl x4]) (rO := fun z => some (.inl z)) (mO := fun _ => M) zk_X12_holds q1599 q1598 ⟨by decide, by decide⟩ ⟨rfl, rfl⟩ rfl rfl (Nat.le_of_ble_eq_true rfl) (by decide +kernel) (fun z hz => c_X12_holds hz) (fun v5 => ?_)
      change Sim l G Y_X12_tied lim _ _ 74 [some (.inr (.inr x0)), none, some (.inl x2), some (.inl x3), some (.inl x4), some (.inl x5)] [.inl v5, .inl x4] M
      refine s_if_eq (tgt := 109) (off := 35) (by decide +kernel) (by decide) (fun h6 => ?_) (fun h6 => ?_)
      · skip
        refine s_run (b := [(.iconst 0, 1), (.ior, 1), (.istore 4, 2), (.iinc 5 1, 3), (.goto (-67), 3)]) 49 [some (.inr (.inr x0)), none, some (.inl x2), some (.inl x3), some (.inl (x4 ||| (0 : Int32))), some (.inl (x5 + (1 : Int32)))] [] (by decide +kernel) rfl ?_
        exact s_lsub (ls' := [some (.inr (.inr x0)), none, some (.inl x2), some (.inl x3), some (.inl (x4 ||| (0 : Int32))), some (.inl (x5 + (1 : Int32)))]) ⟨rfl, ⟨rfl, ⟨rfl, ⟨rfl, ⟨rfl, trivial⟩⟩⟩⟩⟩ (kk1 (x4 ||| (0 : Int32)) (x5 + (1 : Int32)))
      · skip
        refine s_run (b := [(.aload_n 0, 1), (.iload 5, 2), (.iload_n 2, 1)]) 81 [some (.inr (.inr x0)), none, some (.inl x2), some (.inl x3), some (.inl x4), some (.inl x5)] [.inl x2, .inl x5, .inr (.inr x0), .inl x4] (by decide +kernel) rfl ?_
        refine s_cV (Z := Y_X12_hears) (c := 12) (vs := [.inl x5, .inl x2]) (st := [.inl x4]) (rO := fun z => some (.inl z)) (mO := fun _ => M) zk_X12_hears zi_X12_hears q1609 rfl ⟨by decide, by decide⟩ ⟨rfl, rfl⟩ rfl rfl (Nat.le_of_ble_eq_true rfl) (by decide +kernel) (fun z hz => c_X12_hears hz) (fun v7 => ?_)
        change Sim l G Y_X12_tied lim _ _ 84 [some (.inr (.inr x0)), none, some (.inl x2), some (.inl x3), some (.inl x4), some (.inl x5)] [.inl v7, .inl x4] M
        refine s_if_eq (tgt := 109) (off := 25) (by decide +kernel) (by decide) (fun h8 => ?_) (fun h8 => ?_)
        · skip
          refine s_run (b := [(.iconst 0, 1), (.ior, 1), (.istore 4, 2), (.iinc 5 1, 3), (.goto (-67), 3)]) 49 [some (.inr (.inr x0)), none, some (.inl x2), some (.inl x3), some (.inl (x4 ||| (0 : Int32))), some (.inl (x5 + (1 : Int32)))] [] (by decide +kernel) rfl ?_
          exact s_lsub (ls' := [some (.inr (.inr x0)), none, some (.inl x2), some (.inl x3), some (.inl (x4 ||| (0 : Int32))), some (.inl (x5 + (1 : Int32)))]) ⟨rfl, ⟨rfl, ⟨rfl, ⟨rfl, ⟨rfl, trivial⟩⟩⟩⟩⟩ (kk1 (x4 ||| (0 : Int32)) (x5 + (1 : Int32)))
        · skip
          refine s_run (b := [(.aload_n 0, 1), (.iload 5, 2), (.iload_n 2, 1), (.iload_n 3, 1)]) 92 [some (.inr (.inr x0)), none, some (.inl x2), some (.inl x3), some (.inl x4), some (.inl x5)] [.inl x3, .inl x2, .inl x5, .inr (.inr x0), .inl x4] (by decide +kernel) rfl ?_
          refine s_cV (Z := Y_X12_ringOf) (c := 12) (vs := [.inl x5, .inl x2, .inl x3]) (st := [.inl x4]) (rO := fun z => some (.inl z)) (mO := fun _ => M) zk_X12_ringOf zi_X12_ringOf q1617 rfl ⟨by decide, by decide⟩ ⟨rfl, rfl⟩ rfl rfl (Nat.le_of_ble_eq_true rfl) (by decide +kernel) (fun z hz => c_X12_ringOf hz) (fun v9 => ?_)
          change Sim l G Y_X12_tied lim _ _ 95 [some (.inr (.inr x0)), none, some (.inl x2), some (.inl x3), some (.inl x4), some (.inl x5)] [.inl v9, .inl x4] M
          refine s_run (b := [(.aload_n 0, 1)]) 96 [some (.inr (.inr x0)), none, some (.inl x2), some (.inl x3), some (.inl x4), some (.inl x5)] [.inr (.inr x0), .inl v9, .inl x4] (by decide +kernel) rfl ?_
          refine s_gI fl_12_198 rfl (by decide +kernel) (fun v10 => ?_)
          refine s_ic_ne (tgt := 109) (off := 10) (by decide +kernel) (by decide) (fun h11 => ?_) (fun h11 => ?_)
          · skip
            refine s_run (b := [(.iconst 1, 1), (.iload 5, 2), (.ishl, 1), (.goto 4, 3), (.ior, 1), (.istore 4, 2), (.iinc 5 1, 3), (.goto (-67), 3)]) 49 [some (.inr (.inr x0)), none, some (.inl x2), some (.inl x3), some (.inl (x4 ||| ((1 : Int32) <<< (x5 &&& 31)))), some (.inl (x5 + (1 : Int32)))] [] (by decide +kernel) rfl ?_
            exact s_lsub (ls' := [some (.inr (.inr x0)), none, some (.inl x2), some (.inl x3), some (.inl (x4 ||| ((1 : Int32) <<< (x5 &&& 31)))), some (.inl (x5 + (1 : Int32)))]) ⟨rfl, ⟨rfl, ⟨rfl, ⟨rfl, ⟨rfl, trivial⟩⟩⟩⟩⟩ (kk1 (x4 ||| ((1 : Int32) <<< (x5 &&& 31))) (x5 + (1 : Int32)))
          · skip
            refine s_run (b := [(.iconst 0, 1), (.ior, 1), (.istore 4, 2), (.iinc 5 1, 3), (.goto (-67), 3)]) 49 [some (.inr (.inr x0)), none, some (.inl x2), some (.inl x3), some (.inl (x4 ||| (0 : Int32))), some (.inl (x5 + (1 : Int32)))] [] (by decide +kernel) rfl ?_
            exact s_lsub (ls' := [some (.inr (.inr x0)), none, some (.inl x2), some (.inl x3), some (.inl (x4 ||| (0 : Int32))), some (.inl (x5 + (1 : Int32)))]) ⟨rfl, ⟨rfl, ⟨rfl, ⟨rfl, ⟨rfl, trivial⟩⟩⟩⟩⟩ (kk1 (x4 ||| (0 : Int32)) (x5 + (1 : Int32)))
set_option maxRecDepth 20000 in
theorem L_X12_tied_49 {l : Launch} {G : Gv} {lim : Nat × Nat} (M : Mem) (x0 : Nat) (x2 : Int32) (x3 : Int32) (x4 : Int32) (x5 : Int32) (K : ((Int32)) → Option (Option Value × Mem)) (kk2_0 : ∀ r : Int32, SimR l G Y_X12_tied lim (K r) 119 [none, none, none, none, some (.inl r), none] [] M) : Sim l G Y_X12_tied lim (f_X12_tied_L49 M x0 x2 x3 x4 x5) K 49 [some (.inr (.inr x0)), none, some (.inl x2), some (.inl x3), some (.inl x4), some (.inl x5)] [] M :=
  s_iter (f := fun s : Int32 × Int32 => f_X12_tied_B49 M x0 x2 x3 s.1 s.2) (hd := 49) (cl := fun s => [some (.inr (.inr x0)), none, some (.inl x2), some (.inl x3), some (.inl s.1), some (.inl s.2)]) (cm := fun s => M) (xp := fun _ => 119) (xl := fun r => [none, none, none, none, some (.inl r), none]) (xm := fun r => M) (fun s K h1 h2 => B_X12_tied_49 M x0 x2 x3 s.1 s.2 K (fun a4 a5 => h1 (a4, a5)) (fun a4 => h2 a4)) 1048576 (x4, x5) K kk2_0
def f_X12_tied (M : Mem) (x0 : Nat) (x1 : Int32) (x2 : Int32) : Option (Int32 × Mem) :=
  (ob M 12 x0).bind fun _ => (f_X12_isOffice M x0 x1).bind fun z1 =>
  (if z1.1 = 0 then
    some ((-1 : Int32), z1.2)
  else
    (ob z1.2 12 x0).bind fun _ => (f_X12_isDesk z1.2 x0 x2).bind fun v3 =>
    (if v3 = 0 then
      some ((-1 : Int32), z1.2)
    else
      (ob z1.2 12 x0).bind fun _ => (f_X12_asTold z1.2 x0).bind fun z5 =>
      (gI z5 12 x0 12).bind fun v6 =>
      (ob z5 12 x0).bind fun _ => (f_X12_rings z5 x0 x2 ((((1 : Int32) <<< (v6 &&& 31)) - (1 : Int32)) &&& (((1 : Int32) <<< (x2 &&& 31)) ^^^ (-1 : Int32)))).bind fun z7 =>
      (f_X12_tied_L49 z7 x0 x2 ((((1 : Int32) <<< (v6 &&& 31)) - (1 : Int32)) &&& (((1 : Int32) <<< (x2 &&& 31)) ^^^ (-1 : Int32))) (0 : Int32) (0 : Int32)).bind fun r8 =>
      some (r8, z7)))
set_option maxRecDepth 20000 in
theorem S_X12_tied {l : Launch} {G : Gv} {lim : Nat × Nat} (M : Mem) (x0 : Nat) (x1 : Int32) (x2 : Int32) : Sim l G Y_X12_tied lim (f_X12_tied M x0 x1 x2) (fun z => some (some (.int z.1), z.2)) 0 [some (.inr (.inr x0)), some (.inl x1), some (.inl x2), none, none, none] [] M := by
  unfold f_X12_tied
  refine s_run (b := [(.aload_n 0, 1), (.iload_n 1, 1)]) 2 [some (.inr (.inr x0)), some (.inl x1), some (.inl x2), none, none, none] [.inl x1, .inr (.inr x0)] (by decide +kernel) rfl ?_
  refine s_cV (Z := Y_X12_isOffice) (c := 12) (vs := [.inl x1]) (st := []) (rO := fun z => some (.inl z.1)) (mO := fun z => z.2) zk_X12_isOffice zi_X12_isOffice q1550 rfl ⟨by decide, by decide⟩ ⟨rfl, rfl⟩ rfl rfl (Nat.le_of_ble_eq_true rfl) (by decide +kernel) (fun z hz => c_X12_isOffice hz) (fun z1 => ?_)
  change Sim l G Y_X12_tied lim _ _ 5 [some (.inr (.inr x0)), some (.inl x1), some (.inl x2), none, none, none] [.inl z1.1] z1.2
  refine s_if_eq (tgt := 16) (off := 11) (by decide +kernel) (by decide) (fun h2 => ?_) (fun h2 => ?_)
  · skip
    refine s_run (b := [(.iconst (-1), 1)]) 17 [some (.inr (.inr x0)), some (.inl x1), some (.inl x2), none, none, none] [.inl (-1 : Int32)] (by decide +kernel) rfl ?_
    exact s_iret (by decide +kernel) rfl
  · skip
    refine s_run (b := [(.aload_n 0, 1), (.iload_n 2, 1)]) 10 [some (.inr (.inr x0)), some (.inl x1), some (.inl x2), none, none, none] [.inl x2, .inr (.inr x0)] (by decide +kernel) rfl ?_
    refine s_cV (Z := Y_X12_isDesk) (c := 12) (vs := [.inl x2]) (st := []) (rO := fun z => some (.inl z)) (mO := fun _ => z1.2) zk_X12_isDesk zi_X12_isDesk q1554 rfl ⟨by decide, by decide⟩ ⟨rfl, rfl⟩ rfl rfl (Nat.le_of_ble_eq_true rfl) (by decide +kernel) (fun z hz => c_X12_isDesk hz) (fun v3 => ?_)
    change Sim l G Y_X12_tied lim _ _ 13 [some (.inr (.inr x0)), some (.inl x1), some (.inl x2), none, none, none] [.inl v3] z1.2
    refine s_if_ne (tgt := 18) (off := 5) (by decide +kernel) (by decide) (fun h4 => ?_) (fun h4 => ?_)
    · skip
      refine s_run (b := [(.iconst (-1), 1)]) 17 [some (.inr (.inr x0)), some (.inl x1), some (.inl x2), none, none, none] [.inl (-1 : Int32)] (by decide +kernel) rfl ?_
      exact s_iret (by decide +kernel) rfl
    · skip
      refine s_run (b := [(.aload_n 0, 1)]) 19 [some (.inr (.inr x0)), some (.inl x1), some (.inl x2), none, none, none] [.inr (.inr x0)] (by decide +kernel) rfl ?_
      refine s_cV (Z := Y_X12_asTold) (c := 12) (vs := []) (st := []) (rO := fun _ => none) (mO := fun z => z) zk_X12_asTold zi_X12_asTold q1590 rfl ⟨by decide, by decide⟩ ⟨rfl, rfl⟩ rfl rfl (Nat.le_of_ble_eq_true rfl) (by decide +kernel) (fun z hz => c_X12_asTold hz) (fun z5 => ?_)
      change Sim l G Y_X12_tied lim _ _ 22 [some (.inr (.inr x0)), some (.inl x1), some (.inl x2), none, none, none] [] z5
      refine s_run (b := [(.iconst 1, 1), (.aload_n 0, 1)]) 24 [some (.inr (.inr x0)), some (.inl x1), some (.inl x2), none, none, none] [.inr (.inr x0), .inl (1 : Int32)] (by decide +kernel) rfl ?_
      refine s_gI fl_12_162 rfl (by decide +kernel) (fun v6 => ?_)
      refine s_run (b := [(.ishl, 1), (.iconst 1, 1), (.isub, 1), (.iconst 1, 1), (.iload_n 2, 1), (.ishl, 1), (.iconst (-1), 1), (.ixor, 1), (.iand, 1), (.istore_n 3, 1), (.aload_n 0, 1), (.iload_n 2, 1), (.iload_n 3, 1)]) 40 [some (.inr (.inr x0)), some (.inl x1), some (.inl x2), some (.inl ((((1 : Int32) <<< (v6 &&& 31)) - (1 : Int32)) &&& (((1 : Int32) <<< (x2 &&& 31)) ^^^ (-1 : Int32)))), none, none] [.inl ((((1 : Int32) <<< (v6 &&& 31)) - (1 : Int32)) &&& (((1 : Int32) <<< (x2 &&& 31)) ^^^ (-1 : Int32))), .inl x2, .inr (.inr x0)] (by decide +kernel) rfl ?_
      refine s_cV (Z := Y_X12_rings) (c := 12) (vs := [.inl x2, .inl ((((1 : Int32) <<< (v6 &&& 31)) - (1 : Int32)) &&& (((1 : Int32) <<< (x2 &&& 31)) ^^^ (-1 : Int32)))]) (st := []) (rO := fun _ => none) (mO := fun z => z) zk_X12_rings zi_X12_rings q1605 rfl ⟨by decide, by decide⟩ ⟨rfl, rfl⟩ rfl rfl (Nat.le_of_ble_eq_true rfl) (by decide +kernel) (fun z hz => c_X12_rings hz) (fun z7 => ?_)
      change Sim l G Y_X12_tied lim _ _ 43 [some (.inr (.inr x0)), some (.inl x1), some (.inl x2), some (.inl ((((1 : Int32) <<< (v6 &&& 31)) - (1 : Int32)) &&& (((1 : Int32) <<< (x2 &&& 31)) ^^^ (-1 : Int32)))), none, none] [] z7
      refine s_run (b := [(.iconst 0, 1), (.istore 4, 2), (.iconst 0, 1), (.istore 5, 2)]) 49 [some (.inr (.inr x0)), some (.inl x1), some (.inl x2), some (.inl ((((1 : Int32) <<< (v6 &&& 31)) - (1 : Int32)) &&& (((1 : Int32) <<< (x2 &&& 31)) ^^^ (-1 : Int32)))), some (.inl (0 : Int32)), some (.inl (0 : Int32))] [] (by decide +kernel) rfl ?_
      refine s_lsub (ls' := [some (.inr (.inr x0)), none, some (.inl x2), some (.inl ((((1 : Int32) <<< (v6 &&& 31)) - (1 : Int32)) &&& (((1 : Int32) <<< (x2 &&& 31)) ^^^ (-1 : Int32)))), some (.inl (0 : Int32)), some (.inl (0 : Int32))]) ⟨rfl, ⟨rfl, ⟨rfl, ⟨rfl, ⟨rfl, trivial⟩⟩⟩⟩⟩ ?_
      refine sim_bind (L_X12_tied_49 z7 x0 x2 ((((1 : Int32) <<< (v6 &&& 31)) - (1 : Int32)) &&& (((1 : Int32) <<< (x2 &&& 31)) ^^^ (-1 : Int32))) (0 : Int32) (0 : Int32) _ (fun r8 => ?_))
      change Sim l G Y_X12_tied lim _ _ 119 [none, none, none, none, some (.inl r8), none] [] z7
      refine s_run (b := [(.iload 4, 2)]) 121 [none, none, none, none, some (.inl r8), none] [.inl r8] (by decide +kernel) rfl ?_
      exact s_iret (by decide +kernel) rfl
set_option maxRecDepth 20000 in
theorem c_X12_tied {l : Launch} {G : Gv} {M : Mem} {x0 : Nat} {x1 : Int32} {x2 : Int32} {z : Int32 × Mem} (h : f_X12_tied M x0 x1 x2 = some z) : MetS l G Y_X12_tied [.inr (.inr x0), .inl x1, .inl x2] M (some (.int z.1)) z.2 :=
  met_of (ls0 := [some (.inr (.inr x0)), some (.inl x1), some (.inl x2), none, none, none]) (by decide) rfl (lv_in (m := 3) rfl) (sl_le (Nat.le_of_ble_eq_true rfl)) (by rw [h]; rfl) (Or.inl ⟨rfl, rfl⟩) (S_X12_tied M x0 x1 x2)
def f_X12_who (M : Mem) (x0 : Nat) (x1 : Int32) (x2 : Int32) (x3 : Int32) (x4 : Int32) : Option (Int32 × Mem) :=
  (ob M 12 x0).bind fun _ => (f_X12_isOffice M x0 x1).bind fun z1 =>
  (if z1.1 = 0 then
    some ((-1 : Int32), z1.2)
  else
    (ob z1.2 12 x0).bind fun _ => (f_X12_isDesk z1.2 x0 x2).bind fun v3 =>
    (if v3 = 0 then
      some ((-1 : Int32), z1.2)
    else
      (gI z1.2 12 x0 12).bind fun v5 =>
      (f_X12_isIn z1.2 x3 (0 : Int32) (((1 : Int32) <<< (v5 &&& 31)) - (1 : Int32))).bind fun v6 =>
      (if v6 = 0 then
        some ((-1 : Int32), z1.2)
      else
        (ob z1.2 12 x0).bind fun _ => (f_X12_asTold z1.2 x0).bind fun z8 =>
        (ob z8 12 x0).bind fun _ => (f_X12_rings z8 x0 x2 x3).bind fun z9 =>
        (if x4 = 0 then
          (gI z9 12 x0 16).bind fun v11 =>
          some (v11, z9)
        else
          (gI z9 12 x0 17).bind fun v12 =>
          some (v12, z9)))))
set_option maxRecDepth 20000 in
theorem S_X12_who {l : Launch} {G : Gv} {lim : Nat × Nat} (M : Mem) (x0 : Nat) (x1 : Int32) (x2 : Int32) (x3 : Int32) (x4 : Int32) : Sim l G Y_X12_who lim (f_X12_who M x0 x1 x2 x3 x4) (fun z => some (some (.int z.1), z.2)) 0 [some (.inr (.inr x0)), some (.inl x1), some (.inl x2), some (.inl x3), some (.inl x4)] [] M := by
  unfold f_X12_who
  refine s_run (b := [(.aload_n 0, 1), (.iload_n 1, 1)]) 2 [some (.inr (.inr x0)), some (.inl x1), some (.inl x2), some (.inl x3), some (.inl x4)] [.inl x1, .inr (.inr x0)] (by decide +kernel) rfl ?_
  refine s_cV (Z := Y_X12_isOffice) (c := 12) (vs := [.inl x1]) (st := []) (rO := fun z => some (.inl z.1)) (mO := fun z => z.2) zk_X12_isOffice zi_X12_isOffice q1550 rfl ⟨by decide, by decide⟩ ⟨rfl, rfl⟩ rfl rfl (Nat.le_of_ble_eq_true rfl) (by decide +kernel) (fun z hz => c_X12_isOffice hz) (fun z1 => ?_)
  change Sim l G Y_X12_who lim _ _ 5 [some (.inr (.inr x0)), some (.inl x1), some (.inl x2), some (.inl x3), some (.inl x4)] [.inl z1.1] z1.2
  refine s_if_eq (tgt := 32) (off := 27) (by decide +kernel) (by decide) (fun h2 => ?_) (fun h2 => ?_)
  · skip
    refine s_run (b := [(.iconst (-1), 1)]) 33 [some (.inr (.inr x0)), some (.inl x1), some (.inl x2), some (.inl x3), some (.inl x4)] [.inl (-1 : Int32)] (by decide +kernel) rfl ?_
    exact s_iret (by decide +kernel) rfl
  · skip
    refine s_run (b := [(.aload_n 0, 1), (.iload_n 2, 1)]) 10 [some (.inr (.inr x0)), some (.inl x1), some (.inl x2), some (.inl x3), some (.inl x4)] [.inl x2, .inr (.inr x0)] (by decide +kernel) rfl ?_
    refine s_cV (Z := Y_X12_isDesk) (c := 12) (vs := [.inl x2]) (st := []) (rO := fun z => some (.inl z)) (mO := fun _ => z1.2) zk_X12_isDesk zi_X12_isDesk q1554 rfl ⟨by decide, by decide⟩ ⟨rfl, rfl⟩ rfl rfl (Nat.le_of_ble_eq_true rfl) (by decide +kernel) (fun z hz => c_X12_isDesk hz) (fun v3 => ?_)
    change Sim l G Y_X12_who lim _ _ 13 [some (.inr (.inr x0)), some (.inl x1), some (.inl x2), some (.inl x3), some (.inl x4)] [.inl v3] z1.2
    refine s_if_eq (tgt := 32) (off := 19) (by decide +kernel) (by decide) (fun h4 => ?_) (fun h4 => ?_)
    · skip
      refine s_run (b := [(.iconst (-1), 1)]) 33 [some (.inr (.inr x0)), some (.inl x1), some (.inl x2), some (.inl x3), some (.inl x4)] [.inl (-1 : Int32)] (by decide +kernel) rfl ?_
      exact s_iret (by decide +kernel) rfl
    · skip
      refine s_run (b := [(.iload_n 3, 1), (.iconst 0, 1), (.iconst 1, 1), (.aload_n 0, 1)]) 20 [some (.inr (.inr x0)), some (.inl x1), some (.inl x2), some (.inl x3), some (.inl x4)] [.inr (.inr x0), .inl (1 : Int32), .inl (0 : Int32), .inl x3] (by decide +kernel) rfl ?_
      refine s_gI fl_12_162 rfl (by decide +kernel) (fun v5 => ?_)
      refine s_run (b := [(.ishl, 1), (.iconst 1, 1), (.isub, 1)]) 26 [some (.inr (.inr x0)), some (.inl x1), some (.inl x2), some (.inl x3), some (.inl x4)] [.inl (((1 : Int32) <<< (v5 &&& 31)) - (1 : Int32)), .inl (0 : Int32), .inl x3] (by decide +kernel) rfl ?_
      refine s_cS (Z := Y_X12_isIn) (vs := [.inl x3, .inl (0 : Int32), .inl (((1 : Int32) <<< (v5 &&& 31)) - (1 : Int32))]) (st := []) (rO := fun z => some (.inl z)) (mO := fun _ => z1.2) zk_X12_isIn q1464 q1463 ⟨by decide, by decide⟩ ⟨rfl, rfl⟩ rfl rfl (Nat.le_of_ble_eq_true rfl) (by decide +kernel) (fun z hz => c_X12_isIn hz) (fun v6 => ?_)
      change Sim l G Y_X12_who lim _ _ 29 [some (.inr (.inr x0)), some (.inl x1), some (.inl x2), some (.inl x3), some (.inl x4)] [.inl v6] z1.2
      refine s_if_ne (tgt := 34) (off := 5) (by decide +kernel) (by decide) (fun h7 => ?_) (fun h7 => ?_)
      · skip
        refine s_run (b := [(.iconst (-1), 1)]) 33 [some (.inr (.inr x0)), some (.inl x1), some (.inl x2), some (.inl x3), some (.inl x4)] [.inl (-1 : Int32)] (by decide +kernel) rfl ?_
        exact s_iret (by decide +kernel) rfl
      · skip
        refine s_run (b := [(.aload_n 0, 1)]) 35 [some (.inr (.inr x0)), some (.inl x1), some (.inl x2), some (.inl x3), some (.inl x4)] [.inr (.inr x0)] (by decide +kernel) rfl ?_
        refine s_cV (Z := Y_X12_asTold) (c := 12) (vs := []) (st := []) (rO := fun _ => none) (mO := fun z => z) zk_X12_asTold zi_X12_asTold q1590 rfl ⟨by decide, by decide⟩ ⟨rfl, rfl⟩ rfl rfl (Nat.le_of_ble_eq_true rfl) (by decide +kernel) (fun z hz => c_X12_asTold hz) (fun z8 => ?_)
        change Sim l G Y_X12_who lim _ _ 38 [some (.inr (.inr x0)), some (.inl x1), some (.inl x2), some (.inl x3), some (.inl x4)] [] z8
        refine s_run (b := [(.aload_n 0, 1), (.iload_n 2, 1), (.iload_n 3, 1)]) 41 [some (.inr (.inr x0)), some (.inl x1), some (.inl x2), some (.inl x3), some (.inl x4)] [.inl x3, .inl x2, .inr (.inr x0)] (by decide +kernel) rfl ?_
        refine s_cV (Z := Y_X12_rings) (c := 12) (vs := [.inl x2, .inl x3]) (st := []) (rO := fun _ => none) (mO := fun z => z) zk_X12_rings zi_X12_rings q1605 rfl ⟨by decide, by decide⟩ ⟨rfl, rfl⟩ rfl rfl (Nat.le_of_ble_eq_true rfl) (by decide +kernel) (fun z hz => c_X12_rings hz) (fun z9 => ?_)
        change Sim l G Y_X12_who lim _ _ 44 [some (.inr (.inr x0)), some (.inl x1), some (.inl x2), some (.inl x3), some (.inl x4)] [] z9
        refine s_run (b := [(.iload 4, 2)]) 46 [some (.inr (.inr x0)), some (.inl x1), some (.inl x2), some (.inl x3), some (.inl x4)] [.inl x4] (by decide +kernel) rfl ?_
        refine s_if_eq (tgt := 56) (off := 10) (by decide +kernel) (by decide) (fun h10 => ?_) (fun h10 => ?_)
        · skip
          refine s_run (b := [(.aload_n 0, 1)]) 57 [some (.inr (.inr x0)), some (.inl x1), some (.inl x2), some (.inl x3), some (.inl x4)] [.inr (.inr x0)] (by decide +kernel) rfl ?_
          refine s_gI fl_12_195 rfl (by decide +kernel) (fun v11 => ?_)
          exact s_iret (by decide +kernel) rfl
        · skip
          refine s_run (b := [(.aload_n 0, 1)]) 50 [some (.inr (.inr x0)), some (.inl x1), some (.inl x2), some (.inl x3), some (.inl x4)] [.inr (.inr x0)] (by decide +kernel) rfl ?_
          refine s_gI fl_12_198 rfl (by decide +kernel) (fun v12 => ?_)
          refine s_run (b := [(.goto 7, 3)]) 60 [some (.inr (.inr x0)), some (.inl x1), some (.inl x2), some (.inl x3), some (.inl x4)] [.inl v12] (by decide +kernel) rfl ?_
          exact s_iret (by decide +kernel) rfl
set_option maxRecDepth 20000 in
theorem c_X12_who {l : Launch} {G : Gv} {M : Mem} {x0 : Nat} {x1 : Int32} {x2 : Int32} {x3 : Int32} {x4 : Int32} {z : Int32 × Mem} (h : f_X12_who M x0 x1 x2 x3 x4 = some z) : MetS l G Y_X12_who [.inr (.inr x0), .inl x1, .inl x2, .inl x3, .inl x4] M (some (.int z.1)) z.2 :=
  met_of (ls0 := [some (.inr (.inr x0)), some (.inl x1), some (.inl x2), some (.inl x3), some (.inl x4)]) (by decide) rfl (lv_in (m := 0) rfl) (sl_le (Nat.le_of_ble_eq_true rfl)) (by rw [h]; rfl) (Or.inl ⟨rfl, rfl⟩) (S_X12_who M x0 x1 x2 x3 x4)
