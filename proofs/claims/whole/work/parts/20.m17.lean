set_option maxHeartbeats 8000000 in
set_option maxRecDepth 20000 in
theorem dsw_L_law_33 : decode Y_L_law.2.1 33 = .ok (.tableswitch (1812) (0) (38) #[171, 234, 257, 290, 313, 346, 389, 422, 475, 544, 567, 627, 687, 740, 774, 817, 860, 913, 972, 1015, 1064, 1113, 1172, 1205, 1238, 1271, 1294, 1337, 1380, 1439, 1482, 1525, 1558, 1618, 1641, 1694, 1743, 1766, 1789], 171) := by decide +kernel
def f_L_law_J204 (lim : Nat × Nat) (X : List Int32) (M : Mem) (x1 : Nat) (x2 : Nat) (x3 : Int32)  : Option ((Int32 × Mem) ⊕ ((Mem))) :=
  (scI X (x3 + (1 : Int32))).bind fun v1 =>
  (scI X (x3 + (2 : Int32))).bind fun v2 =>
  (scI X (x3 + (3 : Int32))).bind fun v3 =>
  (scI X (x3 + (4 : Int32))).bind fun v4 =>
  (scI X (x3 + (5 : Int32))).bind fun v5 =>
  (ob M 11 x1).bind fun _ => (f_X11_feed M x1 v1 v2 v3 v4 v5).bind fun z6 =>
  (scI X (x3 + (1 : Int32))).bind fun v7 =>
  (scI X (x3 + (2 : Int32))).bind fun v8 =>
  (scI X (x3 + (3 : Int32))).bind fun v9 =>
  (scI X (x3 + (4 : Int32))).bind fun v10 =>
  (scI X (x3 + (5 : Int32))).bind fun v11 =>
  (ob z6.2 12 x2).bind fun _ => (f_X12_feed z6.2 x2 v7 v8 v9 v10 v11).bind fun z12 =>
  (if z6.1 = z12.1 then
    some (.inl ((x3 + (6 : Int32)), z12.2))
  else
    none)
set_option maxHeartbeats 8000000 in
set_option maxRecDepth 20000 in
theorem J_L_law_204 {l : Launch} {G : Gv} {lim : Nat × Nat} (M : Mem) (x1 : Nat) (x2 : Nat) (x3 : Int32)  (K : (Int32 × Mem) ⊕ ((Mem)) → Option (Option Value × Mem)) (kk1 : ∀ (s3 : Int32) (s_ : Mem), SimR l G Y_L_law lim (K (.inl (s3, s_))) 18 [some (.inr (.inr 4000)), some (.inr (.inr x1)), some (.inr (.inr x2)), some (.inl s3)] [] s_) (kk2_0 : ∀ (s_ : Mem), SimR l G Y_L_law lim (K (.inr s_)) 1851 [none, none, none, none] [] s_) : Sim l G Y_L_law lim (f_L_law_J204 lim G.2.2.2.2 M x1 x2 x3) K 204 [some (.inr (.inr 4000)), some (.inr (.inr x1)), some (.inr (.inr x2)), some (.inl x3)] [] M := by
  unfold f_L_law_J204
  refine s_run (b := [(.aload_n 1, 1), (.aload_n 0, 1), (.iload_n 3, 1), (.iconst 1, 1), (.iadd, 1)]) 209 [some (.inr (.inr 4000)), some (.inr (.inr x1)), some (.inr (.inr x2)), some (.inl x3)] [.inl (x3 + (1 : Int32)), .inr (.inr 4000), .inr (.inr x1)] (by decide +kernel) rfl ?_
  refine s_sc (by decide +kernel) (fun v1 => ?_)
  refine s_run (b := [(.aload_n 0, 1), (.iload_n 3, 1), (.iconst 2, 1), (.iadd, 1)]) 214 [some (.inr (.inr 4000)), some (.inr (.inr x1)), some (.inr (.inr x2)), some (.inl x3)] [.inl (x3 + (2 : Int32)), .inr (.inr 4000), .inl v1, .inr (.inr x1)] (by decide +kernel) rfl ?_
  refine s_sc (by decide +kernel) (fun v2 => ?_)
  refine s_run (b := [(.aload_n 0, 1), (.iload_n 3, 1), (.iconst 3, 1), (.iadd, 1)]) 219 [some (.inr (.inr 4000)), some (.inr (.inr x1)), some (.inr (.inr x2)), some (.inl x3)] [.inl (x3 + (3 : Int32)), .inr (.inr 4000), .inl v2, .inl v1, .inr (.inr x1)] (by decide +kernel) rfl ?_
  refine s_sc (by decide +kernel) (fun v3 => ?_)
  refine s_run (b := [(.aload_n 0, 1), (.iload_n 3, 1), (.iconst 4, 1), (.iadd, 1)]) 224 [some (.inr (.inr 4000)), some (.inr (.inr x1)), some (.inr (.inr x2)), some (.inl x3)] [.inl (x3 + (4 : Int32)), .inr (.inr 4000), .inl v3, .inl v2, .inl v1, .inr (.inr x1)] (by decide +kernel) rfl ?_
  refine s_sc (by decide +kernel) (fun v4 => ?_)
  refine s_run (b := [(.aload_n 0, 1), (.iload_n 3, 1), (.iconst 5, 1), (.iadd, 1)]) 229 [some (.inr (.inr 4000)), some (.inr (.inr x1)), some (.inr (.inr x2)), some (.inl x3)] [.inl (x3 + (5 : Int32)), .inr (.inr 4000), .inl v4, .inl v3, .inl v2, .inl v1, .inr (.inr x1)] (by decide +kernel) rfl ?_
  refine s_sc (by decide +kernel) (fun v5 => ?_)
  refine s_cV (Z := Y_X11_feed) (c := 11) (vs := [.inl v1, .inl v2, .inl v3, .inl v4, .inl v5]) (st := []) (rO := fun z => some (.inl z.1)) (mO := fun z => z.2) zk_X11_feed zi_X11_feed q491 rfl ⟨by decide, by decide⟩ ⟨rfl, rfl⟩ rfl rfl (Nat.le_of_ble_eq_true rfl) (by decide +kernel) (fun z hz => c_X11_feed hz) (fun z6 => ?_)
  change Sim l G Y_L_law lim _ _ 233 [some (.inr (.inr 4000)), some (.inr (.inr x1)), some (.inr (.inr x2)), some (.inl x3)] [.inl z6.1] z6.2
  refine s_run (b := [(.aload_n 2, 1), (.aload_n 0, 1), (.iload_n 3, 1), (.iconst 1, 1), (.iadd, 1)]) 238 [some (.inr (.inr 4000)), some (.inr (.inr x1)), some (.inr (.inr x2)), some (.inl x3)] [.inl (x3 + (1 : Int32)), .inr (.inr 4000), .inr (.inr x2), .inl z6.1] (by decide +kernel) rfl ?_
  refine s_sc (by decide +kernel) (fun v7 => ?_)
  refine s_run (b := [(.aload_n 0, 1), (.iload_n 3, 1), (.iconst 2, 1), (.iadd, 1)]) 243 [some (.inr (.inr 4000)), some (.inr (.inr x1)), some (.inr (.inr x2)), some (.inl x3)] [.inl (x3 + (2 : Int32)), .inr (.inr 4000), .inl v7, .inr (.inr x2), .inl z6.1] (by decide +kernel) rfl ?_
  refine s_sc (by decide +kernel) (fun v8 => ?_)
  refine s_run (b := [(.aload_n 0, 1), (.iload_n 3, 1), (.iconst 3, 1), (.iadd, 1)]) 248 [some (.inr (.inr 4000)), some (.inr (.inr x1)), some (.inr (.inr x2)), some (.inl x3)] [.inl (x3 + (3 : Int32)), .inr (.inr 4000), .inl v8, .inl v7, .inr (.inr x2), .inl z6.1] (by decide +kernel) rfl ?_
  refine s_sc (by decide +kernel) (fun v9 => ?_)
  refine s_run (b := [(.aload_n 0, 1), (.iload_n 3, 1), (.iconst 4, 1), (.iadd, 1)]) 253 [some (.inr (.inr 4000)), some (.inr (.inr x1)), some (.inr (.inr x2)), some (.inl x3)] [.inl (x3 + (4 : Int32)), .inr (.inr 4000), .inl v9, .inl v8, .inl v7, .inr (.inr x2), .inl z6.1] (by decide +kernel) rfl ?_
  refine s_sc (by decide +kernel) (fun v10 => ?_)
  refine s_run (b := [(.aload_n 0, 1), (.iload_n 3, 1), (.iconst 5, 1), (.iadd, 1)]) 258 [some (.inr (.inr 4000)), some (.inr (.inr x1)), some (.inr (.inr x2)), some (.inl x3)] [.inl (x3 + (5 : Int32)), .inr (.inr 4000), .inl v10, .inl v9, .inl v8, .inl v7, .inr (.inr x2), .inl z6.1] (by decide +kernel) rfl ?_
  refine s_sc (by decide +kernel) (fun v11 => ?_)
  refine s_cV (Z := Y_X12_feed) (c := 12) (vs := [.inl v7, .inl v8, .inl v9, .inl v10, .inl v11]) (st := [.inl z6.1]) (rO := fun z => some (.inl z.1)) (mO := fun z => z.2) zk_X12_feed zi_X12_feed q1451 rfl ⟨by decide, by decide⟩ ⟨rfl, rfl⟩ rfl rfl (Nat.le_of_ble_eq_true rfl) (by decide +kernel) (fun z hz => c_X12_feed hz) (fun z12 => ?_)
  change Sim l G Y_L_law lim _ _ 262 [some (.inr (.inr 4000)), some (.inr (.inr x1)), some (.inr (.inr x2)), some (.inl x3)] [.inl z12.1, .inl z6.1] z12.2
  refine s_ic_eq (tgt := 1845) (off := 1583) (by decide +kernel) (by decide) (fun h13 => ?_) (fun h13 => ?_)
  · skip
    refine s_run (b := [(.iinc 3 6, 3), (.goto (-1830), 3)]) 18 [some (.inr (.inr 4000)), some (.inr (.inr x1)), some (.inr (.inr x2)), some (.inl (x3 + (6 : Int32)))] [] (by decide +kernel) rfl ?_
    exact s_lsub (ls' := [some (.inr (.inr 4000)), some (.inr (.inr x1)), some (.inr (.inr x2)), some (.inl (x3 + (6 : Int32)))]) ⟨rfl, ⟨rfl, ⟨rfl, ⟨rfl, trivial⟩⟩⟩⟩ (kk1 (x3 + (6 : Int32)) z12.2)
  · skip
    exact s_none
def f_L_law_J267 (lim : Nat × Nat) (X : List Int32) (M : Mem) (x1 : Nat) (x2 : Nat) (x3 : Int32)  : Option ((Int32 × Mem) ⊕ ((Mem))) :=
  (scI X (x3 + (1 : Int32))).bind fun v1 =>
  (ob M 11 x1).bind fun _ => (f_X11_end M x1 v1).bind fun z2 =>
  (scI X (x3 + (1 : Int32))).bind fun v3 =>
  (ob z2.2 12 x2).bind fun _ => (f_X12_end z2.2 x2 v3).bind fun z4 =>
  (if z2.1 = z4.1 then
    some (.inl ((x3 + (6 : Int32)), z4.2))
  else
    none)
set_option maxHeartbeats 8000000 in
set_option maxRecDepth 20000 in
theorem J_L_law_267 {l : Launch} {G : Gv} {lim : Nat × Nat} (M : Mem) (x1 : Nat) (x2 : Nat) (x3 : Int32)  (K : (Int32 × Mem) ⊕ ((Mem)) → Option (Option Value × Mem)) (kk1 : ∀ (s3 : Int32) (s_ : Mem), SimR l G Y_L_law lim (K (.inl (s3, s_))) 18 [some (.inr (.inr 4000)), some (.inr (.inr x1)), some (.inr (.inr x2)), some (.inl s3)] [] s_) (kk2_0 : ∀ (s_ : Mem), SimR l G Y_L_law lim (K (.inr s_)) 1851 [none, none, none, none] [] s_) : Sim l G Y_L_law lim (f_L_law_J267 lim G.2.2.2.2 M x1 x2 x3) K 267 [some (.inr (.inr 4000)), some (.inr (.inr x1)), some (.inr (.inr x2)), some (.inl x3)] [] M := by
  unfold f_L_law_J267
  refine s_run (b := [(.aload_n 1, 1), (.aload_n 0, 1), (.iload_n 3, 1), (.iconst 1, 1), (.iadd, 1)]) 272 [some (.inr (.inr 4000)), some (.inr (.inr x1)), some (.inr (.inr x2)), some (.inl x3)] [.inl (x3 + (1 : Int32)), .inr (.inr 4000), .inr (.inr x1)] (by decide +kernel) rfl ?_
  refine s_sc (by decide +kernel) (fun v1 => ?_)
  refine s_cV (Z := Y_X11_end) (c := 11) (vs := [.inl v1]) (st := []) (rO := fun z => some (.inl z.1)) (mO := fun z => z.2) zk_X11_end zi_X11_end q499 rfl ⟨by decide, by decide⟩ ⟨rfl, rfl⟩ rfl rfl (Nat.le_of_ble_eq_true rfl) (by decide +kernel) (fun z hz => c_X11_end hz) (fun z2 => ?_)
  change Sim l G Y_L_law lim _ _ 276 [some (.inr (.inr 4000)), some (.inr (.inr x1)), some (.inr (.inr x2)), some (.inl x3)] [.inl z2.1] z2.2
  refine s_run (b := [(.aload_n 2, 1), (.aload_n 0, 1), (.iload_n 3, 1), (.iconst 1, 1), (.iadd, 1)]) 281 [some (.inr (.inr 4000)), some (.inr (.inr x1)), some (.inr (.inr x2)), some (.inl x3)] [.inl (x3 + (1 : Int32)), .inr (.inr 4000), .inr (.inr x2), .inl z2.1] (by decide +kernel) rfl ?_
  refine s_sc (by decide +kernel) (fun v3 => ?_)
  refine s_cV (Z := Y_X12_end) (c := 12) (vs := [.inl v3]) (st := [.inl z2.1]) (rO := fun z => some (.inl z.1)) (mO := fun z => z.2) zk_X12_end zi_X12_end q1455 rfl ⟨by decide, by decide⟩ ⟨rfl, rfl⟩ rfl rfl (Nat.le_of_ble_eq_true rfl) (by decide +kernel) (fun z hz => c_X12_end hz) (fun z4 => ?_)
  change Sim l G Y_L_law lim _ _ 285 [some (.inr (.inr 4000)), some (.inr (.inr x1)), some (.inr (.inr x2)), some (.inl x3)] [.inl z4.1, .inl z2.1] z4.2
  refine s_ic_eq (tgt := 1845) (off := 1560) (by decide +kernel) (by decide) (fun h5 => ?_) (fun h5 => ?_)
  · skip
    refine s_run (b := [(.iinc 3 6, 3), (.goto (-1830), 3)]) 18 [some (.inr (.inr 4000)), some (.inr (.inr x1)), some (.inr (.inr x2)), some (.inl (x3 + (6 : Int32)))] [] (by decide +kernel) rfl ?_
    exact s_lsub (ls' := [some (.inr (.inr 4000)), some (.inr (.inr x1)), some (.inr (.inr x2)), some (.inl (x3 + (6 : Int32)))]) ⟨rfl, ⟨rfl, ⟨rfl, ⟨rfl, trivial⟩⟩⟩⟩ (kk1 (x3 + (6 : Int32)) z4.2)
  · skip
    exact s_none
def f_L_law_J290 (lim : Nat × Nat) (X : List Int32) (M : Mem) (x1 : Nat) (x2 : Nat) (x3 : Int32)  : Option ((Int32 × Mem) ⊕ ((Mem))) :=
  (scI X (x3 + (1 : Int32))).bind fun v1 =>
  (scI X (x3 + (2 : Int32))).bind fun v2 =>
  (ob M 11 x1).bind fun _ => (f_X11_text M x1 v1 v2).bind fun z3 =>
  (scI X (x3 + (1 : Int32))).bind fun v4 =>
  (scI X (x3 + (2 : Int32))).bind fun v5 =>
  (ob z3.2 12 x2).bind fun _ => (f_X12_text z3.2 x2 v4 v5).bind fun z6 =>
  (if z3.1 = z6.1 then
    some (.inl ((x3 + (6 : Int32)), z6.2))
  else
    none)
set_option maxHeartbeats 8000000 in
set_option maxRecDepth 20000 in
theorem J_L_law_290 {l : Launch} {G : Gv} {lim : Nat × Nat} (M : Mem) (x1 : Nat) (x2 : Nat) (x3 : Int32)  (K : (Int32 × Mem) ⊕ ((Mem)) → Option (Option Value × Mem)) (kk1 : ∀ (s3 : Int32) (s_ : Mem), SimR l G Y_L_law lim (K (.inl (s3, s_))) 18 [some (.inr (.inr 4000)), some (.inr (.inr x1)), some (.inr (.inr x2)), some (.inl s3)] [] s_) (kk2_0 : ∀ (s_ : Mem), SimR l G Y_L_law lim (K (.inr s_)) 1851 [none, none, none, none] [] s_) : Sim l G Y_L_law lim (f_L_law_J290 lim G.2.2.2.2 M x1 x2 x3) K 290 [some (.inr (.inr 4000)), some (.inr (.inr x1)), some (.inr (.inr x2)), some (.inl x3)] [] M := by
  unfold f_L_law_J290
  refine s_run (b := [(.aload_n 1, 1), (.aload_n 0, 1), (.iload_n 3, 1), (.iconst 1, 1), (.iadd, 1)]) 295 [some (.inr (.inr 4000)), some (.inr (.inr x1)), some (.inr (.inr x2)), some (.inl x3)] [.inl (x3 + (1 : Int32)), .inr (.inr 4000), .inr (.inr x1)] (by decide +kernel) rfl ?_
  refine s_sc (by decide +kernel) (fun v1 => ?_)
  refine s_run (b := [(.aload_n 0, 1), (.iload_n 3, 1), (.iconst 2, 1), (.iadd, 1)]) 300 [some (.inr (.inr 4000)), some (.inr (.inr x1)), some (.inr (.inr x2)), some (.inl x3)] [.inl (x3 + (2 : Int32)), .inr (.inr 4000), .inl v1, .inr (.inr x1)] (by decide +kernel) rfl ?_
  refine s_sc (by decide +kernel) (fun v2 => ?_)
  refine s_cV (Z := Y_X11_text) (c := 11) (vs := [.inl v1, .inl v2]) (st := []) (rO := fun z => some (.inl z.1)) (mO := fun z => z.2) zk_X11_text zi_X11_text q503 rfl ⟨by decide, by decide⟩ ⟨rfl, rfl⟩ rfl rfl (Nat.le_of_ble_eq_true rfl) (by decide +kernel) (fun z hz => c_X11_text hz) (fun z3 => ?_)
  change Sim l G Y_L_law lim _ _ 304 [some (.inr (.inr 4000)), some (.inr (.inr x1)), some (.inr (.inr x2)), some (.inl x3)] [.inl z3.1] z3.2
  refine s_run (b := [(.aload_n 2, 1), (.aload_n 0, 1), (.iload_n 3, 1), (.iconst 1, 1), (.iadd, 1)]) 309 [some (.inr (.inr 4000)), some (.inr (.inr x1)), some (.inr (.inr x2)), some (.inl x3)] [.inl (x3 + (1 : Int32)), .inr (.inr 4000), .inr (.inr x2), .inl z3.1] (by decide +kernel) rfl ?_
  refine s_sc (by decide +kernel) (fun v4 => ?_)
  refine s_run (b := [(.aload_n 0, 1), (.iload_n 3, 1), (.iconst 2, 1), (.iadd, 1)]) 314 [some (.inr (.inr 4000)), some (.inr (.inr x1)), some (.inr (.inr x2)), some (.inl x3)] [.inl (x3 + (2 : Int32)), .inr (.inr 4000), .inl v4, .inr (.inr x2), .inl z3.1] (by decide +kernel) rfl ?_
  refine s_sc (by decide +kernel) (fun v5 => ?_)
  refine s_cV (Z := Y_X12_text) (c := 12) (vs := [.inl v4, .inl v5]) (st := [.inl z3.1]) (rO := fun z => some (.inl z.1)) (mO := fun z => z.2) zk_X12_text zi_X12_text q1459 rfl ⟨by decide, by decide⟩ ⟨rfl, rfl⟩ rfl rfl (Nat.le_of_ble_eq_true rfl) (by decide +kernel) (fun z hz => c_X12_text hz) (fun z6 => ?_)
  change Sim l G Y_L_law lim _ _ 318 [some (.inr (.inr 4000)), some (.inr (.inr x1)), some (.inr (.inr x2)), some (.inl x3)] [.inl z6.1, .inl z3.1] z6.2
  refine s_ic_eq (tgt := 1845) (off := 1527) (by decide +kernel) (by decide) (fun h7 => ?_) (fun h7 => ?_)
  · skip
    refine s_run (b := [(.iinc 3 6, 3), (.goto (-1830), 3)]) 18 [some (.inr (.inr 4000)), some (.inr (.inr x1)), some (.inr (.inr x2)), some (.inl (x3 + (6 : Int32)))] [] (by decide +kernel) rfl ?_
    exact s_lsub (ls' := [some (.inr (.inr 4000)), some (.inr (.inr x1)), some (.inr (.inr x2)), some (.inl (x3 + (6 : Int32)))]) ⟨rfl, ⟨rfl, ⟨rfl, ⟨rfl, trivial⟩⟩⟩⟩ (kk1 (x3 + (6 : Int32)) z6.2)
  · skip
    exact s_none
def f_L_law_J323 (lim : Nat × Nat) (X : List Int32) (M : Mem) (x1 : Nat) (x2 : Nat) (x3 : Int32)  : Option ((Int32 × Mem) ⊕ ((Mem))) :=
  (scI X (x3 + (1 : Int32))).bind fun v1 =>
  (ob M 11 x1).bind fun _ => (f_X11_fault M x1 v1).bind fun v2 =>
  (scI X (x3 + (1 : Int32))).bind fun v3 =>
  (ob M 12 x2).bind fun _ => (f_X12_fault M x2 v3).bind fun v4 =>
  (if v2 = v4 then
    some (.inl ((x3 + (6 : Int32)), M))
  else
    none)
set_option maxHeartbeats 8000000 in
set_option maxRecDepth 20000 in
theorem J_L_law_323 {l : Launch} {G : Gv} {lim : Nat × Nat} (M : Mem) (x1 : Nat) (x2 : Nat) (x3 : Int32)  (K : (Int32 × Mem) ⊕ ((Mem)) → Option (Option Value × Mem)) (kk1 : ∀ (s3 : Int32) (s_ : Mem), SimR l G Y_L_law lim (K (.inl (s3, s_))) 18 [some (.inr (.inr 4000)), some (.inr (.inr x1)), some (.inr (.inr x2)), some (.inl s3)] [] s_) (kk2_0 : ∀ (s_ : Mem), SimR l G Y_L_law lim (K (.inr s_)) 1851 [none, none, none, none] [] s_) : Sim l G Y_L_law lim (f_L_law_J323 lim G.2.2.2.2 M x1 x2 x3) K 323 [some (.inr (.inr 4000)), some (.inr (.inr x1)), some (.inr (.inr x2)), some (.inl x3)] [] M := by
  unfold f_L_law_J323
  refine s_run (b := [(.aload_n 1, 1), (.aload_n 0, 1), (.iload_n 3, 1), (.iconst 1, 1), (.iadd, 1)]) 328 [some (.inr (.inr 4000)), some (.inr (.inr x1)), some (.inr (.inr x2)), some (.inl x3)] [.inl (x3 + (1 : Int32)), .inr (.inr 4000), .inr (.inr x1)] (by decide +kernel) rfl ?_
  refine s_sc (by decide +kernel) (fun v1 => ?_)
  refine s_cV (Z := Y_X11_fault) (c := 11) (vs := [.inl v1]) (st := []) (rO := fun z => some (.inl z)) (mO := fun _ => M) zk_X11_fault zi_X11_fault q708 rfl ⟨by decide, by decide⟩ ⟨rfl, rfl⟩ rfl rfl (Nat.le_of_ble_eq_true rfl) (by decide +kernel) (fun z hz => c_X11_fault hz) (fun v2 => ?_)
  change Sim l G Y_L_law lim _ _ 332 [some (.inr (.inr 4000)), some (.inr (.inr x1)), some (.inr (.inr x2)), some (.inl x3)] [.inl v2] M
  refine s_run (b := [(.aload_n 2, 1), (.aload_n 0, 1), (.iload_n 3, 1), (.iconst 1, 1), (.iadd, 1)]) 337 [some (.inr (.inr 4000)), some (.inr (.inr x1)), some (.inr (.inr x2)), some (.inl x3)] [.inl (x3 + (1 : Int32)), .inr (.inr 4000), .inr (.inr x2), .inl v2] (by decide +kernel) rfl ?_
  refine s_sc (by decide +kernel) (fun v3 => ?_)
  refine s_cV (Z := Y_X12_fault) (c := 12) (vs := [.inl v3]) (st := [.inl v2]) (rO := fun z => some (.inl z)) (mO := fun _ => M) zk_X12_fault zi_X12_fault q1542 rfl ⟨by decide, by decide⟩ ⟨rfl, rfl⟩ rfl rfl (Nat.le_of_ble_eq_true rfl) (by decide +kernel) (fun z hz => c_X12_fault hz) (fun v4 => ?_)
  change Sim l G Y_L_law lim _ _ 341 [some (.inr (.inr 4000)), some (.inr (.inr x1)), some (.inr (.inr x2)), some (.inl x3)] [.inl v4, .inl v2] M
  refine s_ic_eq (tgt := 1845) (off := 1504) (by decide +kernel) (by decide) (fun h5 => ?_) (fun h5 => ?_)
  · skip
    refine s_run (b := [(.iinc 3 6, 3), (.goto (-1830), 3)]) 18 [some (.inr (.inr 4000)), some (.inr (.inr x1)), some (.inr (.inr x2)), some (.inl (x3 + (6 : Int32)))] [] (by decide +kernel) rfl ?_
    exact s_lsub (ls' := [some (.inr (.inr 4000)), some (.inr (.inr x1)), some (.inr (.inr x2)), some (.inl (x3 + (6 : Int32)))]) ⟨rfl, ⟨rfl, ⟨rfl, ⟨rfl, trivial⟩⟩⟩⟩ (kk1 (x3 + (6 : Int32)) M)
  · skip
    exact s_none
def f_L_law_J346 (lim : Nat × Nat) (X : List Int32) (M : Mem) (x1 : Nat) (x2 : Nat) (x3 : Int32)  : Option ((Int32 × Mem) ⊕ ((Mem))) :=
  (scI X (x3 + (1 : Int32))).bind fun v1 =>
  (scI X (x3 + (2 : Int32))).bind fun v2 =>
  (ob M 11 x1).bind fun _ => (f_X11_office M x1 v1 v2).bind fun v3 =>
  (scI X (x3 + (1 : Int32))).bind fun v4 =>
  (scI X (x3 + (2 : Int32))).bind fun v5 =>
  (ob M 12 x2).bind fun _ => (f_X12_office M x2 v4 v5).bind fun z6 =>
  (if v3 = z6.1 then
    some (.inl ((x3 + (6 : Int32)), z6.2))
  else
    none)
set_option maxHeartbeats 8000000 in
set_option maxRecDepth 20000 in
theorem J_L_law_346 {l : Launch} {G : Gv} {lim : Nat × Nat} (M : Mem) (x1 : Nat) (x2 : Nat) (x3 : Int32)  (K : (Int32 × Mem) ⊕ ((Mem)) → Option (Option Value × Mem)) (kk1 : ∀ (s3 : Int32) (s_ : Mem), SimR l G Y_L_law lim (K (.inl (s3, s_))) 18 [some (.inr (.inr 4000)), some (.inr (.inr x1)), some (.inr (.inr x2)), some (.inl s3)] [] s_) (kk2_0 : ∀ (s_ : Mem), SimR l G Y_L_law lim (K (.inr s_)) 1851 [none, none, none, none] [] s_) : Sim l G Y_L_law lim (f_L_law_J346 lim G.2.2.2.2 M x1 x2 x3) K 346 [some (.inr (.inr 4000)), some (.inr (.inr x1)), some (.inr (.inr x2)), some (.inl x3)] [] M := by
  unfold f_L_law_J346
  refine s_run (b := [(.aload_n 1, 1), (.aload_n 0, 1), (.iload_n 3, 1), (.iconst 1, 1), (.iadd, 1)]) 351 [some (.inr (.inr 4000)), some (.inr (.inr x1)), some (.inr (.inr x2)), some (.inl x3)] [.inl (x3 + (1 : Int32)), .inr (.inr 4000), .inr (.inr x1)] (by decide +kernel) rfl ?_
  refine s_sc (by decide +kernel) (fun v1 => ?_)
  refine s_run (b := [(.aload_n 0, 1), (.iload_n 3, 1), (.iconst 2, 1), (.iadd, 1)]) 356 [some (.inr (.inr 4000)), some (.inr (.inr x1)), some (.inr (.inr x2)), some (.inl x3)] [.inl (x3 + (2 : Int32)), .inr (.inr 4000), .inl v1, .inr (.inr x1)] (by decide +kernel) rfl ?_
  refine s_sc (by decide +kernel) (fun v2 => ?_)
  refine s_cV (Z := Y_X11_office) (c := 11) (vs := [.inl v1, .inl v2]) (st := []) (rO := fun z => some (.inl z)) (mO := fun _ => M) zk_X11_office zi_X11_office q712 rfl ⟨by decide, by decide⟩ ⟨rfl, rfl⟩ rfl rfl (Nat.le_of_ble_eq_true rfl) (by decide +kernel) (fun z hz => c_X11_office hz) (fun v3 => ?_)
  change Sim l G Y_L_law lim _ _ 360 [some (.inr (.inr 4000)), some (.inr (.inr x1)), some (.inr (.inr x2)), some (.inl x3)] [.inl v3] M
  refine s_run (b := [(.aload_n 2, 1), (.aload_n 0, 1), (.iload_n 3, 1), (.iconst 1, 1), (.iadd, 1)]) 365 [some (.inr (.inr 4000)), some (.inr (.inr x1)), some (.inr (.inr x2)), some (.inl x3)] [.inl (x3 + (1 : Int32)), .inr (.inr 4000), .inr (.inr x2), .inl v3] (by decide +kernel) rfl ?_
  refine s_sc (by decide +kernel) (fun v4 => ?_)
  refine s_run (b := [(.aload_n 0, 1), (.iload_n 3, 1), (.iconst 2, 1), (.iadd, 1)]) 370 [some (.inr (.inr 4000)), some (.inr (.inr x1)), some (.inr (.inr x2)), some (.inl x3)] [.inl (x3 + (2 : Int32)), .inr (.inr 4000), .inl v4, .inr (.inr x2), .inl v3] (by decide +kernel) rfl ?_
  refine s_sc (by decide +kernel) (fun v5 => ?_)
  refine s_cV (Z := Y_X12_office) (c := 12) (vs := [.inl v4, .inl v5]) (st := [.inl v3]) (rO := fun z => some (.inl z.1)) (mO := fun z => z.2) zk_X12_office zi_X12_office q1546 rfl ⟨by decide, by decide⟩ ⟨rfl, rfl⟩ rfl rfl (Nat.le_of_ble_eq_true rfl) (by decide +kernel) (fun z hz => c_X12_office hz) (fun z6 => ?_)
  change Sim l G Y_L_law lim _ _ 374 [some (.inr (.inr 4000)), some (.inr (.inr x1)), some (.inr (.inr x2)), some (.inl x3)] [.inl z6.1, .inl v3] z6.2
  refine s_ic_eq (tgt := 1845) (off := 1471) (by decide +kernel) (by decide) (fun h7 => ?_) (fun h7 => ?_)
  · skip
    refine s_run (b := [(.iinc 3 6, 3), (.goto (-1830), 3)]) 18 [some (.inr (.inr 4000)), some (.inr (.inr x1)), some (.inr (.inr x2)), some (.inl (x3 + (6 : Int32)))] [] (by decide +kernel) rfl ?_
    exact s_lsub (ls' := [some (.inr (.inr 4000)), some (.inr (.inr x1)), some (.inr (.inr x2)), some (.inl (x3 + (6 : Int32)))]) ⟨rfl, ⟨rfl, ⟨rfl, ⟨rfl, trivial⟩⟩⟩⟩ (kk1 (x3 + (6 : Int32)) z6.2)
  · skip
    exact s_none
def f_L_law_J379 (lim : Nat × Nat) (X : List Int32) (M : Mem) (x1 : Nat) (x2 : Nat) (x3 : Int32)  : Option ((Int32 × Mem) ⊕ ((Mem))) :=
  (scI X (x3 + (1 : Int32))).bind fun v1 =>
  (scI X (x3 + (2 : Int32))).bind fun v2 =>
  (scI X (x3 + (3 : Int32))).bind fun v3 =>
  (ob M 11 x1).bind fun _ => (f_X11_deed M x1 v1 v2 v3).bind fun v4 =>
  (scI X (x3 + (1 : Int32))).bind fun v5 =>
  (scI X (x3 + (2 : Int32))).bind fun v6 =>
  (scI X (x3 + (3 : Int32))).bind fun v7 =>
  (ob M 12 x2).bind fun _ => (f_X12_deed M x2 v5 v6 v7).bind fun z8 =>
  (if v4 = z8.1 then
    some (.inl ((x3 + (6 : Int32)), z8.2))
  else
    none)
set_option maxHeartbeats 8000000 in
set_option maxRecDepth 20000 in
theorem J_L_law_379 {l : Launch} {G : Gv} {lim : Nat × Nat} (M : Mem) (x1 : Nat) (x2 : Nat) (x3 : Int32)  (K : (Int32 × Mem) ⊕ ((Mem)) → Option (Option Value × Mem)) (kk1 : ∀ (s3 : Int32) (s_ : Mem), SimR l G Y_L_law lim (K (.inl (s3, s_))) 18 [some (.inr (.inr 4000)), some (.inr (.inr x1)), some (.inr (.inr x2)), some (.inl s3)] [] s_) (kk2_0 : ∀ (s_ : Mem), SimR l G Y_L_law lim (K (.inr s_)) 1851 [none, none, none, none] [] s_) : Sim l G Y_L_law lim (f_L_law_J379 lim G.2.2.2.2 M x1 x2 x3) K 379 [some (.inr (.inr 4000)), some (.inr (.inr x1)), some (.inr (.inr x2)), some (.inl x3)] [] M := by
  unfold f_L_law_J379
  refine s_run (b := [(.aload_n 1, 1), (.aload_n 0, 1), (.iload_n 3, 1), (.iconst 1, 1), (.iadd, 1)]) 384 [some (.inr (.inr 4000)), some (.inr (.inr x1)), some (.inr (.inr x2)), some (.inl x3)] [.inl (x3 + (1 : Int32)), .inr (.inr 4000), .inr (.inr x1)] (by decide +kernel) rfl ?_
  refine s_sc (by decide +kernel) (fun v1 => ?_)
  refine s_run (b := [(.aload_n 0, 1), (.iload_n 3, 1), (.iconst 2, 1), (.iadd, 1)]) 389 [some (.inr (.inr 4000)), some (.inr (.inr x1)), some (.inr (.inr x2)), some (.inl x3)] [.inl (x3 + (2 : Int32)), .inr (.inr 4000), .inl v1, .inr (.inr x1)] (by decide +kernel) rfl ?_
  refine s_sc (by decide +kernel) (fun v2 => ?_)
  refine s_run (b := [(.aload_n 0, 1), (.iload_n 3, 1), (.iconst 3, 1), (.iadd, 1)]) 394 [some (.inr (.inr 4000)), some (.inr (.inr x1)), some (.inr (.inr x2)), some (.inl x3)] [.inl (x3 + (3 : Int32)), .inr (.inr 4000), .inl v2, .inl v1, .inr (.inr x1)] (by decide +kernel) rfl ?_
  refine s_sc (by decide +kernel) (fun v3 => ?_)
  refine s_cV (Z := Y_X11_deed) (c := 11) (vs := [.inl v1, .inl v2, .inl v3]) (st := []) (rO := fun z => some (.inl z)) (mO := fun _ => M) zk_X11_deed zi_X11_deed q740 rfl ⟨by decide, by decide⟩ ⟨rfl, rfl⟩ rfl rfl (Nat.le_of_ble_eq_true rfl) (by decide +kernel) (fun z hz => c_X11_deed hz) (fun v4 => ?_)
  change Sim l G Y_L_law lim _ _ 398 [some (.inr (.inr 4000)), some (.inr (.inr x1)), some (.inr (.inr x2)), some (.inl x3)] [.inl v4] M
  refine s_run (b := [(.aload_n 2, 1), (.aload_n 0, 1), (.iload_n 3, 1), (.iconst 1, 1), (.iadd, 1)]) 403 [some (.inr (.inr 4000)), some (.inr (.inr x1)), some (.inr (.inr x2)), some (.inl x3)] [.inl (x3 + (1 : Int32)), .inr (.inr 4000), .inr (.inr x2), .inl v4] (by decide +kernel) rfl ?_
  refine s_sc (by decide +kernel) (fun v5 => ?_)
  refine s_run (b := [(.aload_n 0, 1), (.iload_n 3, 1), (.iconst 2, 1), (.iadd, 1)]) 408 [some (.inr (.inr 4000)), some (.inr (.inr x1)), some (.inr (.inr x2)), some (.inl x3)] [.inl (x3 + (2 : Int32)), .inr (.inr 4000), .inl v5, .inr (.inr x2), .inl v4] (by decide +kernel) rfl ?_
  refine s_sc (by decide +kernel) (fun v6 => ?_)
  refine s_run (b := [(.aload_n 0, 1), (.iload_n 3, 1), (.iconst 3, 1), (.iadd, 1)]) 413 [some (.inr (.inr 4000)), some (.inr (.inr x1)), some (.inr (.inr x2)), some (.inl x3)] [.inl (x3 + (3 : Int32)), .inr (.inr 4000), .inl v6, .inl v5, .inr (.inr x2), .inl v4] (by decide +kernel) rfl ?_
  refine s_sc (by decide +kernel) (fun v7 => ?_)
  refine s_cV (Z := Y_X12_deed) (c := 12) (vs := [.inl v5, .inl v6, .inl v7]) (st := [.inl v4]) (rO := fun z => some (.inl z.1)) (mO := fun z => z.2) zk_X12_deed zi_X12_deed q1570 rfl ⟨by decide, by decide⟩ ⟨rfl, rfl⟩ rfl rfl (Nat.le_of_ble_eq_true rfl) (by decide +kernel) (fun z hz => c_X12_deed hz) (fun z8 => ?_)
  change Sim l G Y_L_law lim _ _ 417 [some (.inr (.inr 4000)), some (.inr (.inr x1)), some (.inr (.inr x2)), some (.inl x3)] [.inl z8.1, .inl v4] z8.2
  refine s_ic_eq (tgt := 1845) (off := 1428) (by decide +kernel) (by decide) (fun h9 => ?_) (fun h9 => ?_)
  · skip
    refine s_run (b := [(.iinc 3 6, 3), (.goto (-1830), 3)]) 18 [some (.inr (.inr 4000)), some (.inr (.inr x1)), some (.inr (.inr x2)), some (.inl (x3 + (6 : Int32)))] [] (by decide +kernel) rfl ?_
    exact s_lsub (ls' := [some (.inr (.inr 4000)), some (.inr (.inr x1)), some (.inr (.inr x2)), some (.inl (x3 + (6 : Int32)))]) ⟨rfl, ⟨rfl, ⟨rfl, ⟨rfl, trivial⟩⟩⟩⟩ (kk1 (x3 + (6 : Int32)) z8.2)
  · skip
    exact s_none
def f_L_law_J422 (lim : Nat × Nat) (X : List Int32) (M : Mem) (x1 : Nat) (x2 : Nat) (x3 : Int32)  : Option ((Int32 × Mem) ⊕ ((Mem))) :=
  (scI X (x3 + (1 : Int32))).bind fun v1 =>
  (scI X (x3 + (2 : Int32))).bind fun v2 =>
  (ob M 11 x1).bind fun _ => (f_X11_stop M x1 v1 v2).bind fun z3 =>
  (scI X (x3 + (1 : Int32))).bind fun v4 =>
  (scI X (x3 + (2 : Int32))).bind fun v5 =>
  (ob z3.2 12 x2).bind fun _ => (f_X12_stop z3.2 x2 v4 v5).bind fun z6 =>
  (if z3.1 = z6.1 then
    some (.inl ((x3 + (6 : Int32)), z6.2))
  else
    none)
set_option maxHeartbeats 8000000 in
set_option maxRecDepth 20000 in
theorem J_L_law_422 {l : Launch} {G : Gv} {lim : Nat × Nat} (M : Mem) (x1 : Nat) (x2 : Nat) (x3 : Int32)  (K : (Int32 × Mem) ⊕ ((Mem)) → Option (Option Value × Mem)) (kk1 : ∀ (s3 : Int32) (s_ : Mem), SimR l G Y_L_law lim (K (.inl (s3, s_))) 18 [some (.inr (.inr 4000)), some (.inr (.inr x1)), some (.inr (.inr x2)), some (.inl s3)] [] s_) (kk2_0 : ∀ (s_ : Mem), SimR l G Y_L_law lim (K (.inr s_)) 1851 [none, none, none, none] [] s_) : Sim l G Y_L_law lim (f_L_law_J422 lim G.2.2.2.2 M x1 x2 x3) K 422 [some (.inr (.inr 4000)), some (.inr (.inr x1)), some (.inr (.inr x2)), some (.inl x3)] [] M := by
  unfold f_L_law_J422
  refine s_run (b := [(.aload_n 1, 1), (.aload_n 0, 1), (.iload_n 3, 1), (.iconst 1, 1), (.iadd, 1)]) 427 [some (.inr (.inr 4000)), some (.inr (.inr x1)), some (.inr (.inr x2)), some (.inl x3)] [.inl (x3 + (1 : Int32)), .inr (.inr 4000), .inr (.inr x1)] (by decide +kernel) rfl ?_
  refine s_sc (by decide +kernel) (fun v1 => ?_)
  refine s_run (b := [(.aload_n 0, 1), (.iload_n 3, 1), (.iconst 2, 1), (.iadd, 1)]) 432 [some (.inr (.inr 4000)), some (.inr (.inr x1)), some (.inr (.inr x2)), some (.inl x3)] [.inl (x3 + (2 : Int32)), .inr (.inr 4000), .inl v1, .inr (.inr x1)] (by decide +kernel) rfl ?_
  refine s_sc (by decide +kernel) (fun v2 => ?_)
  refine s_cV (Z := Y_X11_stop) (c := 11) (vs := [.inl v1, .inl v2]) (st := []) (rO := fun z => some (.inl z.1)) (mO := fun z => z.2) zk_X11_stop zi_X11_stop q752 rfl ⟨by decide, by decide⟩ ⟨rfl, rfl⟩ rfl rfl (Nat.le_of_ble_eq_true rfl) (by decide +kernel) (fun z hz => c_X11_stop hz) (fun z3 => ?_)
  change Sim l G Y_L_law lim _ _ 436 [some (.inr (.inr 4000)), some (.inr (.inr x1)), some (.inr (.inr x2)), some (.inl x3)] [.inl z3.1] z3.2
  refine s_run (b := [(.aload_n 2, 1), (.aload_n 0, 1), (.iload_n 3, 1), (.iconst 1, 1), (.iadd, 1)]) 441 [some (.inr (.inr 4000)), some (.inr (.inr x1)), some (.inr (.inr x2)), some (.inl x3)] [.inl (x3 + (1 : Int32)), .inr (.inr 4000), .inr (.inr x2), .inl z3.1] (by decide +kernel) rfl ?_
  refine s_sc (by decide +kernel) (fun v4 => ?_)
  refine s_run (b := [(.aload_n 0, 1), (.iload_n 3, 1), (.iconst 2, 1), (.iadd, 1)]) 446 [some (.inr (.inr 4000)), some (.inr (.inr x1)), some (.inr (.inr x2)), some (.inl x3)] [.inl (x3 + (2 : Int32)), .inr (.inr 4000), .inl v4, .inr (.inr x2), .inl z3.1] (by decide +kernel) rfl ?_
  refine s_sc (by decide +kernel) (fun v5 => ?_)
  refine s_cV (Z := Y_X12_stop) (c := 12) (vs := [.inl v4, .inl v5]) (st := [.inl z3.1]) (rO := fun z => some (.inl z.1)) (mO := fun z => z.2) zk_X12_stop zi_X12_stop q1578 rfl ⟨by decide, by decide⟩ ⟨rfl, rfl⟩ rfl rfl (Nat.le_of_ble_eq_true rfl) (by decide +kernel) (fun z hz => c_X12_stop hz) (fun z6 => ?_)
  change Sim l G Y_L_law lim _ _ 450 [some (.inr (.inr 4000)), some (.inr (.inr x1)), some (.inr (.inr x2)), some (.inl x3)] [.inl z6.1, .inl z3.1] z6.2
  refine s_ic_eq (tgt := 1845) (off := 1395) (by decide +kernel) (by decide) (fun h7 => ?_) (fun h7 => ?_)
  · skip
    refine s_run (b := [(.iinc 3 6, 3), (.goto (-1830), 3)]) 18 [some (.inr (.inr 4000)), some (.inr (.inr x1)), some (.inr (.inr x2)), some (.inl (x3 + (6 : Int32)))] [] (by decide +kernel) rfl ?_
    exact s_lsub (ls' := [some (.inr (.inr 4000)), some (.inr (.inr x1)), some (.inr (.inr x2)), some (.inl (x3 + (6 : Int32)))]) ⟨rfl, ⟨rfl, ⟨rfl, ⟨rfl, trivial⟩⟩⟩⟩ (kk1 (x3 + (6 : Int32)) z6.2)
  · skip
    exact s_none
def f_L_law_J455 (lim : Nat × Nat) (X : List Int32) (M : Mem) (x1 : Nat) (x2 : Nat) (x3 : Int32)  : Option ((Int32 × Mem) ⊕ ((Mem))) :=
  (scI X (x3 + (1 : Int32))).bind fun v1 =>
  (scI X (x3 + (2 : Int32))).bind fun v2 =>
  (scI X (x3 + (3 : Int32))).bind fun v3 =>
  (scI X (x3 + (4 : Int32))).bind fun v4 =>
  (ob M 11 x1).bind fun _ => (f_X11_state M x1 v1 v2 v3 v4).bind fun z5 =>
  (scI X (x3 + (1 : Int32))).bind fun v6 =>
  (scI X (x3 + (2 : Int32))).bind fun v7 =>
  (scI X (x3 + (3 : Int32))).bind fun v8 =>
  (scI X (x3 + (4 : Int32))).bind fun v9 =>
  (ob z5.2 12 x2).bind fun _ => (f_X12_state z5.2 x2 v6 v7 v8 v9).bind fun z10 =>
  (if z5.1 = z10.1 then
    some (.inl ((x3 + (6 : Int32)), z10.2))
  else
    none)
set_option maxHeartbeats 8000000 in
set_option maxRecDepth 20000 in
theorem J_L_law_455 {l : Launch} {G : Gv} {lim : Nat × Nat} (M : Mem) (x1 : Nat) (x2 : Nat) (x3 : Int32)  (K : (Int32 × Mem) ⊕ ((Mem)) → Option (Option Value × Mem)) (kk1 : ∀ (s3 : Int32) (s_ : Mem), SimR l G Y_L_law lim (K (.inl (s3, s_))) 18 [some (.inr (.inr 4000)), some (.inr (.inr x1)), some (.inr (.inr x2)), some (.inl s3)] [] s_) (kk2_0 : ∀ (s_ : Mem), SimR l G Y_L_law lim (K (.inr s_)) 1851 [none, none, none, none] [] s_) : Sim l G Y_L_law lim (f_L_law_J455 lim G.2.2.2.2 M x1 x2 x3) K 455 [some (.inr (.inr 4000)), some (.inr (.inr x1)), some (.inr (.inr x2)), some (.inl x3)] [] M := by
  unfold f_L_law_J455
  refine s_run (b := [(.aload_n 1, 1), (.aload_n 0, 1), (.iload_n 3, 1), (.iconst 1, 1), (.iadd, 1)]) 460 [some (.inr (.inr 4000)), some (.inr (.inr x1)), some (.inr (.inr x2)), some (.inl x3)] [.inl (x3 + (1 : Int32)), .inr (.inr 4000), .inr (.inr x1)] (by decide +kernel) rfl ?_
  refine s_sc (by decide +kernel) (fun v1 => ?_)
  refine s_run (b := [(.aload_n 0, 1), (.iload_n 3, 1), (.iconst 2, 1), (.iadd, 1)]) 465 [some (.inr (.inr 4000)), some (.inr (.inr x1)), some (.inr (.inr x2)), some (.inl x3)] [.inl (x3 + (2 : Int32)), .inr (.inr 4000), .inl v1, .inr (.inr x1)] (by decide +kernel) rfl ?_
  refine s_sc (by decide +kernel) (fun v2 => ?_)
  refine s_run (b := [(.aload_n 0, 1), (.iload_n 3, 1), (.iconst 3, 1), (.iadd, 1)]) 470 [some (.inr (.inr 4000)), some (.inr (.inr x1)), some (.inr (.inr x2)), some (.inl x3)] [.inl (x3 + (3 : Int32)), .inr (.inr 4000), .inl v2, .inl v1, .inr (.inr x1)] (by decide +kernel) rfl ?_
  refine s_sc (by decide +kernel) (fun v3 => ?_)
  refine s_run (b := [(.aload_n 0, 1), (.iload_n 3, 1), (.iconst 4, 1), (.iadd, 1)]) 475 [some (.inr (.inr 4000)), some (.inr (.inr x1)), some (.inr (.inr x2)), some (.inl x3)] [.inl (x3 + (4 : Int32)), .inr (.inr 4000), .inl v3, .inl v2, .inl v1, .inr (.inr x1)] (by decide +kernel) rfl ?_
  refine s_sc (by decide +kernel) (fun v4 => ?_)
  refine s_cV (Z := Y_X11_state) (c := 11) (vs := [.inl v1, .inl v2, .inl v3, .inl v4]) (st := []) (rO := fun z => some (.inl z.1)) (mO := fun z => z.2) zk_X11_state zi_X11_state q829 rfl ⟨by decide, by decide⟩ ⟨rfl, rfl⟩ rfl rfl (Nat.le_of_ble_eq_true rfl) (by decide +kernel) (fun z hz => c_X11_state hz) (fun z5 => ?_)
  change Sim l G Y_L_law lim _ _ 479 [some (.inr (.inr 4000)), some (.inr (.inr x1)), some (.inr (.inr x2)), some (.inl x3)] [.inl z5.1] z5.2
  refine s_run (b := [(.aload_n 2, 1), (.aload_n 0, 1), (.iload_n 3, 1), (.iconst 1, 1), (.iadd, 1)]) 484 [some (.inr (.inr 4000)), some (.inr (.inr x1)), some (.inr (.inr x2)), some (.inl x3)] [.inl (x3 + (1 : Int32)), .inr (.inr 4000), .inr (.inr x2), .inl z5.1] (by decide +kernel) rfl ?_
  refine s_sc (by decide +kernel) (fun v6 => ?_)
  refine s_run (b := [(.aload_n 0, 1), (.iload_n 3, 1), (.iconst 2, 1), (.iadd, 1)]) 489 [some (.inr (.inr 4000)), some (.inr (.inr x1)), some (.inr (.inr x2)), some (.inl x3)] [.inl (x3 + (2 : Int32)), .inr (.inr 4000), .inl v6, .inr (.inr x2), .inl z5.1] (by decide +kernel) rfl ?_
  refine s_sc (by decide +kernel) (fun v7 => ?_)
  refine s_run (b := [(.aload_n 0, 1), (.iload_n 3, 1), (.iconst 3, 1), (.iadd, 1)]) 494 [some (.inr (.inr 4000)), some (.inr (.inr x1)), some (.inr (.inr x2)), some (.inl x3)] [.inl (x3 + (3 : Int32)), .inr (.inr 4000), .inl v7, .inl v6, .inr (.inr x2), .inl z5.1] (by decide +kernel) rfl ?_
  refine s_sc (by decide +kernel) (fun v8 => ?_)
  refine s_run (b := [(.aload_n 0, 1), (.iload_n 3, 1), (.iconst 4, 1), (.iadd, 1)]) 499 [some (.inr (.inr 4000)), some (.inr (.inr x1)), some (.inr (.inr x2)), some (.inl x3)] [.inl (x3 + (4 : Int32)), .inr (.inr 4000), .inl v8, .inl v7, .inl v6, .inr (.inr x2), .inl z5.1] (by decide +kernel) rfl ?_
  refine s_sc (by decide +kernel) (fun v9 => ?_)
  refine s_cV (Z := Y_X12_state) (c := 12) (vs := [.inl v6, .inl v7, .inl v8, .inl v9]) (st := [.inl z5.1]) (rO := fun z => some (.inl z.1)) (mO := fun z => z.2) zk_X12_state zi_X12_state q1633 rfl ⟨by decide, by decide⟩ ⟨rfl, rfl⟩ rfl rfl (Nat.le_of_ble_eq_true rfl) (by decide +kernel) (fun z hz => c_X12_state hz) (fun z10 => ?_)
  change Sim l G Y_L_law lim _ _ 503 [some (.inr (.inr 4000)), some (.inr (.inr x1)), some (.inr (.inr x2)), some (.inl x3)] [.inl z10.1, .inl z5.1] z10.2
  refine s_ic_eq (tgt := 1845) (off := 1342) (by decide +kernel) (by decide) (fun h11 => ?_) (fun h11 => ?_)
  · skip
    refine s_run (b := [(.iinc 3 6, 3), (.goto (-1830), 3)]) 18 [some (.inr (.inr 4000)), some (.inr (.inr x1)), some (.inr (.inr x2)), some (.inl (x3 + (6 : Int32)))] [] (by decide +kernel) rfl ?_
    exact s_lsub (ls' := [some (.inr (.inr 4000)), some (.inr (.inr x1)), some (.inr (.inr x2)), some (.inl (x3 + (6 : Int32)))]) ⟨rfl, ⟨rfl, ⟨rfl, ⟨rfl, trivial⟩⟩⟩⟩ (kk1 (x3 + (6 : Int32)) z10.2)
  · skip
    exact s_none
def f_L_law_J569 (lim : Nat × Nat) (X : List Int32) (M : Mem) (x1 : Nat) (x2 : Nat) (x3 : Int32) (y0 : Int32) (y1 : Nat) (y2 : Int32) (y3 : Int32) (y4 : Int32) (y5 : Int32) : Option ((Int32 × Mem) ⊕ ((Mem))) :=
  (ob M 12 y1).bind fun _ => (f_X12_who M y1 y2 y3 y4 y5).bind fun z1 =>
  (if y0 = z1.1 then
    some (.inl ((x3 + (6 : Int32)), z1.2))
  else
    none)
set_option maxHeartbeats 8000000 in
set_option maxRecDepth 20000 in
theorem J_L_law_569 {l : Launch} {G : Gv} {lim : Nat × Nat} (M : Mem) (x1 : Nat) (x2 : Nat) (x3 : Int32) (y0 : Int32) (y1 : Nat) (y2 : Int32) (y3 : Int32) (y4 : Int32) (y5 : Int32) (K : (Int32 × Mem) ⊕ ((Mem)) → Option (Option Value × Mem)) (kk1 : ∀ (s3 : Int32) (s_ : Mem), SimR l G Y_L_law lim (K (.inl (s3, s_))) 18 [some (.inr (.inr 4000)), some (.inr (.inr x1)), some (.inr (.inr x2)), some (.inl s3)] [] s_) (kk2_0 : ∀ (s_ : Mem), SimR l G Y_L_law lim (K (.inr s_)) 1851 [none, none, none, none] [] s_) : Sim l G Y_L_law lim (f_L_law_J569 lim G.2.2.2.2 M x1 x2 x3 y0 y1 y2 y3 y4 y5) K 569 [some (.inr (.inr 4000)), some (.inr (.inr x1)), some (.inr (.inr x2)), some (.inl x3)] [.inl y5, .inl y4, .inl y3, .inl y2, .inr (.inr y1), .inl y0] M := by
  unfold f_L_law_J569
  refine s_cV (Z := Y_X12_who) (c := 12) (vs := [.inl y2, .inl y3, .inl y4, .inl y5]) (st := [.inl y0]) (rO := fun z => some (.inl z.1)) (mO := fun z => z.2) zk_X12_who zi_X12_who q1641 rfl ⟨by decide, by decide⟩ ⟨rfl, rfl⟩ rfl rfl (Nat.le_of_ble_eq_true rfl) (by decide +kernel) (fun z hz => c_X12_who hz) (fun z1 => ?_)
  change Sim l G Y_L_law lim _ _ 572 [some (.inr (.inr 4000)), some (.inr (.inr x1)), some (.inr (.inr x2)), some (.inl x3)] [.inl z1.1, .inl y0] z1.2
  refine s_ic_eq (tgt := 1845) (off := 1273) (by decide +kernel) (by decide) (fun h2 => ?_) (fun h2 => ?_)
  · skip
    refine s_run (b := [(.iinc 3 6, 3), (.goto (-1830), 3)]) 18 [some (.inr (.inr 4000)), some (.inr (.inr x1)), some (.inr (.inr x2)), some (.inl (x3 + (6 : Int32)))] [] (by decide +kernel) rfl ?_
    exact s_lsub (ls' := [some (.inr (.inr 4000)), some (.inr (.inr x1)), some (.inr (.inr x2)), some (.inl (x3 + (6 : Int32)))]) ⟨rfl, ⟨rfl, ⟨rfl, ⟨rfl, trivial⟩⟩⟩⟩ (kk1 (x3 + (6 : Int32)) z1.2)
  · skip
    exact s_none
def f_L_law_J537 (lim : Nat × Nat) (X : List Int32) (M : Mem) (x1 : Nat) (x2 : Nat) (x3 : Int32) (y0 : Nat) (y1 : Int32) (y2 : Int32) (y3 : Int32) (y4 : Int32) : Option ((Int32 × Mem) ⊕ ((Mem))) :=
  (ob M 11 y0).bind fun _ => (f_X11_who M y0 y1 y2 y3 y4).bind fun z1 =>
  (scI X (x3 + (1 : Int32))).bind fun v2 =>
  (scI X (x3 + (2 : Int32))).bind fun v3 =>
  (scI X (x3 + (3 : Int32))).bind fun v4 =>
  (scI X (x3 + (4 : Int32))).bind fun v5 =>
  (if v5 = 0 then
    f_L_law_J569 lim X z1.2 x1 x2 x3 z1.1 x2 v2 v3 v4 (0 : Int32)
  else
    f_L_law_J569 lim X z1.2 x1 x2 x3 z1.1 x2 v2 v3 v4 (1 : Int32))
set_option maxHeartbeats 8000000 in
set_option maxRecDepth 20000 in
theorem J_L_law_537 {l : Launch} {G : Gv} {lim : Nat × Nat} (M : Mem) (x1 : Nat) (x2 : Nat) (x3 : Int32) (y0 : Nat) (y1 : Int32) (y2 : Int32) (y3 : Int32) (y4 : Int32) (K : (Int32 × Mem) ⊕ ((Mem)) → Option (Option Value × Mem)) (kk1 : ∀ (s3 : Int32) (s_ : Mem), SimR l G Y_L_law lim (K (.inl (s3, s_))) 18 [some (.inr (.inr 4000)), some (.inr (.inr x1)), some (.inr (.inr x2)), some (.inl s3)] [] s_) (kk2_0 : ∀ (s_ : Mem), SimR l G Y_L_law lim (K (.inr s_)) 1851 [none, none, none, none] [] s_) : Sim l G Y_L_law lim (f_L_law_J537 lim G.2.2.2.2 M x1 x2 x3 y0 y1 y2 y3 y4) K 537 [some (.inr (.inr 4000)), some (.inr (.inr x1)), some (.inr (.inr x2)), some (.inl x3)] [.inl y4, .inl y3, .inl y2, .inl y1, .inr (.inr y0)] M := by
  unfold f_L_law_J537
  refine s_cV (Z := Y_X11_who) (c := 11) (vs := [.inl y1, .inl y2, .inl y3, .inl y4]) (st := []) (rO := fun z => some (.inl z.1)) (mO := fun z => z.2) zk_X11_who zi_X11_who q841 rfl ⟨by decide, by decide⟩ ⟨rfl, rfl⟩ rfl rfl (Nat.le_of_ble_eq_true rfl) (by decide +kernel) (fun z hz => c_X11_who hz) (fun z1 => ?_)
  change Sim l G Y_L_law lim _ _ 540 [some (.inr (.inr 4000)), some (.inr (.inr x1)), some (.inr (.inr x2)), some (.inl x3)] [.inl z1.1] z1.2
  refine s_run (b := [(.aload_n 2, 1), (.aload_n 0, 1), (.iload_n 3, 1), (.iconst 1, 1), (.iadd, 1)]) 545 [some (.inr (.inr 4000)), some (.inr (.inr x1)), some (.inr (.inr x2)), some (.inl x3)] [.inl (x3 + (1 : Int32)), .inr (.inr 4000), .inr (.inr x2), .inl z1.1] (by decide +kernel) rfl ?_
  refine s_sc (by decide +kernel) (fun v2 => ?_)
  refine s_run (b := [(.aload_n 0, 1), (.iload_n 3, 1), (.iconst 2, 1), (.iadd, 1)]) 550 [some (.inr (.inr 4000)), some (.inr (.inr x1)), some (.inr (.inr x2)), some (.inl x3)] [.inl (x3 + (2 : Int32)), .inr (.inr 4000), .inl v2, .inr (.inr x2), .inl z1.1] (by decide +kernel) rfl ?_
  refine s_sc (by decide +kernel) (fun v3 => ?_)
  refine s_run (b := [(.aload_n 0, 1), (.iload_n 3, 1), (.iconst 3, 1), (.iadd, 1)]) 555 [some (.inr (.inr 4000)), some (.inr (.inr x1)), some (.inr (.inr x2)), some (.inl x3)] [.inl (x3 + (3 : Int32)), .inr (.inr 4000), .inl v3, .inl v2, .inr (.inr x2), .inl z1.1] (by decide +kernel) rfl ?_
  refine s_sc (by decide +kernel) (fun v4 => ?_)
  refine s_run (b := [(.aload_n 0, 1), (.iload_n 3, 1), (.iconst 4, 1), (.iadd, 1)]) 560 [some (.inr (.inr 4000)), some (.inr (.inr x1)), some (.inr (.inr x2)), some (.inl x3)] [.inl (x3 + (4 : Int32)), .inr (.inr 4000), .inl v4, .inl v3, .inl v2, .inr (.inr x2), .inl z1.1] (by decide +kernel) rfl ?_
  refine s_sc (by decide +kernel) (fun v5 => ?_)
  refine s_if_eq (tgt := 568) (off := 7) (by decide +kernel) (by decide) (fun h6 => ?_) (fun h6 => ?_)
  · skip
    refine s_run (b := [(.iconst 0, 1)]) 569 [some (.inr (.inr 4000)), some (.inr (.inr x1)), some (.inr (.inr x2)), some (.inl x3)] [.inl (0 : Int32), .inl v4, .inl v3, .inl v2, .inr (.inr x2), .inl z1.1] (by decide +kernel) rfl ?_
    exact s_lsub (ls' := [some (.inr (.inr 4000)), some (.inr (.inr x1)), some (.inr (.inr x2)), some (.inl x3)]) ⟨rfl, ⟨rfl, ⟨rfl, ⟨rfl, trivial⟩⟩⟩⟩ (J_L_law_569 z1.2 x1 x2 x3 z1.1 x2 v2 v3 v4 (0 : Int32) K kk1 kk2_0)
  · skip
    refine s_run (b := [(.iconst 1, 1), (.goto 4, 3)]) 569 [some (.inr (.inr 4000)), some (.inr (.inr x1)), some (.inr (.inr x2)), some (.inl x3)] [.inl (1 : Int32), .inl v4, .inl v3, .inl v2, .inr (.inr x2), .inl z1.1] (by decide +kernel) rfl ?_
    exact s_lsub (ls' := [some (.inr (.inr 4000)), some (.inr (.inr x1)), some (.inr (.inr x2)), some (.inl x3)]) ⟨rfl, ⟨rfl, ⟨rfl, ⟨rfl, trivial⟩⟩⟩⟩ (J_L_law_569 z1.2 x1 x2 x3 z1.1 x2 v2 v3 v4 (1 : Int32) K kk1 kk2_0)
def f_L_law_J508 (lim : Nat × Nat) (X : List Int32) (M : Mem) (x1 : Nat) (x2 : Nat) (x3 : Int32)  : Option ((Int32 × Mem) ⊕ ((Mem))) :=
  (scI X (x3 + (1 : Int32))).bind fun v1 =>
  (scI X (x3 + (2 : Int32))).bind fun v2 =>
  (scI X (x3 + (3 : Int32))).bind fun v3 =>
  (scI X (x3 + (4 : Int32))).bind fun v4 =>
  (if v4 = 0 then
    f_L_law_J537 lim X M x1 x2 x3 x1 v1 v2 v3 (0 : Int32)
  else
    f_L_law_J537 lim X M x1 x2 x3 x1 v1 v2 v3 (1 : Int32))
set_option maxHeartbeats 8000000 in
set_option maxRecDepth 20000 in
theorem J_L_law_508 {l : Launch} {G : Gv} {lim : Nat × Nat} (M : Mem) (x1 : Nat) (x2 : Nat) (x3 : Int32)  (K : (Int32 × Mem) ⊕ ((Mem)) → Option (Option Value × Mem)) (kk1 : ∀ (s3 : Int32) (s_ : Mem), SimR l G Y_L_law lim (K (.inl (s3, s_))) 18 [some (.inr (.inr 4000)), some (.inr (.inr x1)), some (.inr (.inr x2)), some (.inl s3)] [] s_) (kk2_0 : ∀ (s_ : Mem), SimR l G Y_L_law lim (K (.inr s_)) 1851 [none, none, none, none] [] s_) : Sim l G Y_L_law lim (f_L_law_J508 lim G.2.2.2.2 M x1 x2 x3) K 508 [some (.inr (.inr 4000)), some (.inr (.inr x1)), some (.inr (.inr x2)), some (.inl x3)] [] M := by
  unfold f_L_law_J508
  refine s_run (b := [(.aload_n 1, 1), (.aload_n 0, 1), (.iload_n 3, 1), (.iconst 1, 1), (.iadd, 1)]) 513 [some (.inr (.inr 4000)), some (.inr (.inr x1)), some (.inr (.inr x2)), some (.inl x3)] [.inl (x3 + (1 : Int32)), .inr (.inr 4000), .inr (.inr x1)] (by decide +kernel) rfl ?_
  refine s_sc (by decide +kernel) (fun v1 => ?_)
  refine s_run (b := [(.aload_n 0, 1), (.iload_n 3, 1), (.iconst 2, 1), (.iadd, 1)]) 518 [some (.inr (.inr 4000)), some (.inr (.inr x1)), some (.inr (.inr x2)), some (.inl x3)] [.inl (x3 + (2 : Int32)), .inr (.inr 4000), .inl v1, .inr (.inr x1)] (by decide +kernel) rfl ?_
  refine s_sc (by decide +kernel) (fun v2 => ?_)
  refine s_run (b := [(.aload_n 0, 1), (.iload_n 3, 1), (.iconst 3, 1), (.iadd, 1)]) 523 [some (.inr (.inr 4000)), some (.inr (.inr x1)), some (.inr (.inr x2)), some (.inl x3)] [.inl (x3 + (3 : Int32)), .inr (.inr 4000), .inl v2, .inl v1, .inr (.inr x1)] (by decide +kernel) rfl ?_
  refine s_sc (by decide +kernel) (fun v3 => ?_)
  refine s_run (b := [(.aload_n 0, 1), (.iload_n 3, 1), (.iconst 4, 1), (.iadd, 1)]) 528 [some (.inr (.inr 4000)), some (.inr (.inr x1)), some (.inr (.inr x2)), some (.inl x3)] [.inl (x3 + (4 : Int32)), .inr (.inr 4000), .inl v3, .inl v2, .inl v1, .inr (.inr x1)] (by decide +kernel) rfl ?_
  refine s_sc (by decide +kernel) (fun v4 => ?_)
  refine s_if_eq (tgt := 536) (off := 7) (by decide +kernel) (by decide) (fun h5 => ?_) (fun h5 => ?_)
  · skip
    refine s_run (b := [(.iconst 0, 1)]) 537 [some (.inr (.inr 4000)), some (.inr (.inr x1)), some (.inr (.inr x2)), some (.inl x3)] [.inl (0 : Int32), .inl v3, .inl v2, .inl v1, .inr (.inr x1)] (by decide +kernel) rfl ?_
    exact s_lsub (ls' := [some (.inr (.inr 4000)), some (.inr (.inr x1)), some (.inr (.inr x2)), some (.inl x3)]) ⟨rfl, ⟨rfl, ⟨rfl, ⟨rfl, trivial⟩⟩⟩⟩ (J_L_law_537 M x1 x2 x3 x1 v1 v2 v3 (0 : Int32) K kk1 kk2_0)
  · skip
    refine s_run (b := [(.iconst 1, 1), (.goto 4, 3)]) 537 [some (.inr (.inr 4000)), some (.inr (.inr x1)), some (.inr (.inr x2)), some (.inl x3)] [.inl (1 : Int32), .inl v3, .inl v2, .inl v1, .inr (.inr x1)] (by decide +kernel) rfl ?_
    exact s_lsub (ls' := [some (.inr (.inr 4000)), some (.inr (.inr x1)), some (.inr (.inr x2)), some (.inl x3)]) ⟨rfl, ⟨rfl, ⟨rfl, ⟨rfl, trivial⟩⟩⟩⟩ (J_L_law_537 M x1 x2 x3 x1 v1 v2 v3 (1 : Int32) K kk1 kk2_0)
def f_L_law_J577 (lim : Nat × Nat) (X : List Int32) (M : Mem) (x1 : Nat) (x2 : Nat) (x3 : Int32)  : Option ((Int32 × Mem) ⊕ ((Mem))) :=
  (scI X (x3 + (1 : Int32))).bind fun v1 =>
  (ob M 11 x1).bind fun _ => (f_X11_enough M x1 v1).bind fun z2 =>
  (scI X (x3 + (1 : Int32))).bind fun v3 =>
  (ob z2.2 12 x2).bind fun _ => (f_X12_enough z2.2 x2 v3).bind fun z4 =>
  (if z2.1 = z4.1 then
    some (.inl ((x3 + (6 : Int32)), z4.2))
  else
    none)
set_option maxHeartbeats 8000000 in
set_option maxRecDepth 20000 in
theorem J_L_law_577 {l : Launch} {G : Gv} {lim : Nat × Nat} (M : Mem) (x1 : Nat) (x2 : Nat) (x3 : Int32)  (K : (Int32 × Mem) ⊕ ((Mem)) → Option (Option Value × Mem)) (kk1 : ∀ (s3 : Int32) (s_ : Mem), SimR l G Y_L_law lim (K (.inl (s3, s_))) 18 [some (.inr (.inr 4000)), some (.inr (.inr x1)), some (.inr (.inr x2)), some (.inl s3)] [] s_) (kk2_0 : ∀ (s_ : Mem), SimR l G Y_L_law lim (K (.inr s_)) 1851 [none, none, none, none] [] s_) : Sim l G Y_L_law lim (f_L_law_J577 lim G.2.2.2.2 M x1 x2 x3) K 577 [some (.inr (.inr 4000)), some (.inr (.inr x1)), some (.inr (.inr x2)), some (.inl x3)] [] M := by
  unfold f_L_law_J577
  refine s_run (b := [(.aload_n 1, 1), (.aload_n 0, 1), (.iload_n 3, 1), (.iconst 1, 1), (.iadd, 1)]) 582 [some (.inr (.inr 4000)), some (.inr (.inr x1)), some (.inr (.inr x2)), some (.inl x3)] [.inl (x3 + (1 : Int32)), .inr (.inr 4000), .inr (.inr x1)] (by decide +kernel) rfl ?_
  refine s_sc (by decide +kernel) (fun v1 => ?_)
  refine s_cV (Z := Y_X11_enough) (c := 11) (vs := [.inl v1]) (st := []) (rO := fun z => some (.inl z.1)) (mO := fun z => z.2) zk_X11_enough zi_X11_enough q850 rfl ⟨by decide, by decide⟩ ⟨rfl, rfl⟩ rfl rfl (Nat.le_of_ble_eq_true rfl) (by decide +kernel) (fun z hz => c_X11_enough hz) (fun z2 => ?_)
  change Sim l G Y_L_law lim _ _ 586 [some (.inr (.inr 4000)), some (.inr (.inr x1)), some (.inr (.inr x2)), some (.inl x3)] [.inl z2.1] z2.2
  refine s_run (b := [(.aload_n 2, 1), (.aload_n 0, 1), (.iload_n 3, 1), (.iconst 1, 1), (.iadd, 1)]) 591 [some (.inr (.inr 4000)), some (.inr (.inr x1)), some (.inr (.inr x2)), some (.inl x3)] [.inl (x3 + (1 : Int32)), .inr (.inr 4000), .inr (.inr x2), .inl z2.1] (by decide +kernel) rfl ?_
  refine s_sc (by decide +kernel) (fun v3 => ?_)
  refine s_cV (Z := Y_X12_enough) (c := 12) (vs := [.inl v3]) (st := [.inl z2.1]) (rO := fun z => some (.inl z.1)) (mO := fun z => z.2) zk_X12_enough zi_X12_enough q1645 rfl ⟨by decide, by decide⟩ ⟨rfl, rfl⟩ rfl rfl (Nat.le_of_ble_eq_true rfl) (by decide +kernel) (fun z hz => c_X12_enough hz) (fun z4 => ?_)
  change Sim l G Y_L_law lim _ _ 595 [some (.inr (.inr 4000)), some (.inr (.inr x1)), some (.inr (.inr x2)), some (.inl x3)] [.inl z4.1, .inl z2.1] z4.2
  refine s_ic_eq (tgt := 1845) (off := 1250) (by decide +kernel) (by decide) (fun h5 => ?_) (fun h5 => ?_)
  · skip
    refine s_run (b := [(.iinc 3 6, 3), (.goto (-1830), 3)]) 18 [some (.inr (.inr 4000)), some (.inr (.inr x1)), some (.inr (.inr x2)), some (.inl (x3 + (6 : Int32)))] [] (by decide +kernel) rfl ?_
    exact s_lsub (ls' := [some (.inr (.inr 4000)), some (.inr (.inr x1)), some (.inr (.inr x2)), some (.inl (x3 + (6 : Int32)))]) ⟨rfl, ⟨rfl, ⟨rfl, ⟨rfl, trivial⟩⟩⟩⟩ (kk1 (x3 + (6 : Int32)) z4.2)
  · skip
    exact s_none
def f_L_law_J651 (lim : Nat × Nat) (X : List Int32) (M : Mem) (x1 : Nat) (x2 : Nat) (x3 : Int32) (y0 : Int64) (y1 : Nat) (y2 : Int32) (y3 : Int32) (y4 : Int32) : Option ((Int32 × Mem) ⊕ ((Mem))) :=
  (ob M 12 y1).bind fun _ => (f_X12_odds M y1 y2 y3 y4).bind fun z1 =>
  (if (lg_cmp y0 z1.1) = 0 then
    some (.inl ((x3 + (6 : Int32)), z1.2))
  else
    none)
set_option maxHeartbeats 8000000 in
set_option maxRecDepth 20000 in
theorem J_L_law_651 {l : Launch} {G : Gv} {lim : Nat × Nat} (M : Mem) (x1 : Nat) (x2 : Nat) (x3 : Int32) (y0 : Int64) (y1 : Nat) (y2 : Int32) (y3 : Int32) (y4 : Int32) (K : (Int32 × Mem) ⊕ ((Mem)) → Option (Option Value × Mem)) (kk1 : ∀ (s3 : Int32) (s_ : Mem), SimR l G Y_L_law lim (K (.inl (s3, s_))) 18 [some (.inr (.inr 4000)), some (.inr (.inr x1)), some (.inr (.inr x2)), some (.inl s3)] [] s_) (kk2_0 : ∀ (s_ : Mem), SimR l G Y_L_law lim (K (.inr s_)) 1851 [none, none, none, none] [] s_) : Sim l G Y_L_law lim (f_L_law_J651 lim G.2.2.2.2 M x1 x2 x3 y0 y1 y2 y3 y4) K 651 [some (.inr (.inr 4000)), some (.inr (.inr x1)), some (.inr (.inr x2)), some (.inl x3)] [.inl y4, .inl y3, .inl y2, .inr (.inr y1), .inr (.inl y0)] M := by
  unfold f_L_law_J651
  refine s_cV (Z := Y_X12_odds) (c := 12) (vs := [.inl y2, .inl y3, .inl y4]) (st := [.inr (.inl y0)]) (rO := fun z => some (.inr (.inl z.1))) (mO := fun z => z.2) zk_X12_odds zi_X12_odds q1656 rfl ⟨by decide, by decide⟩ ⟨rfl, rfl⟩ rfl rfl (Nat.le_of_ble_eq_true rfl) (by decide +kernel) (fun z hz => c_X12_odds hz) (fun z1 => ?_)
  change Sim l G Y_L_law lim _ _ 654 [some (.inr (.inr 4000)), some (.inr (.inr x1)), some (.inr (.inr x2)), some (.inl x3)] [.inr (.inl z1.1), .inr (.inl y0)] z1.2
  refine s_run (b := [(.lcmp, 1)]) 655 [some (.inr (.inr 4000)), some (.inr (.inr x1)), some (.inr (.inr x2)), some (.inl x3)] [.inl (lg_cmp y0 z1.1)] (by decide +kernel) rfl ?_
  refine s_if_eq (tgt := 1845) (off := 1190) (by decide +kernel) (by decide) (fun h2 => ?_) (fun h2 => ?_)
  · skip
    refine s_run (b := [(.iinc 3 6, 3), (.goto (-1830), 3)]) 18 [some (.inr (.inr 4000)), some (.inr (.inr x1)), some (.inr (.inr x2)), some (.inl (x3 + (6 : Int32)))] [] (by decide +kernel) rfl ?_
    exact s_lsub (ls' := [some (.inr (.inr 4000)), some (.inr (.inr x1)), some (.inr (.inr x2)), some (.inl (x3 + (6 : Int32)))]) ⟨rfl, ⟨rfl, ⟨rfl, ⟨rfl, trivial⟩⟩⟩⟩ (kk1 (x3 + (6 : Int32)) z1.2)
  · skip
    exact s_none
def f_L_law_J624 (lim : Nat × Nat) (X : List Int32) (M : Mem) (x1 : Nat) (x2 : Nat) (x3 : Int32) (y0 : Nat) (y1 : Int32) (y2 : Int32) (y3 : Int32) : Option ((Int32 × Mem) ⊕ ((Mem))) :=
  (ob M 11 y0).bind fun _ => (f_X11_odds M y0 y1 y2 y3).bind fun z1 =>
  (scI X (x3 + (1 : Int32))).bind fun v2 =>
  (scI X (x3 + (2 : Int32))).bind fun v3 =>
  (scI X (x3 + (3 : Int32))).bind fun v4 =>
  (if v4 = 0 then
    f_L_law_J651 lim X z1.2 x1 x2 x3 z1.1 x2 v2 v3 (0 : Int32)
  else
    f_L_law_J651 lim X z1.2 x1 x2 x3 z1.1 x2 v2 v3 (1 : Int32))
set_option maxHeartbeats 8000000 in
set_option maxRecDepth 20000 in
theorem J_L_law_624 {l : Launch} {G : Gv} {lim : Nat × Nat} (M : Mem) (x1 : Nat) (x2 : Nat) (x3 : Int32) (y0 : Nat) (y1 : Int32) (y2 : Int32) (y3 : Int32) (K : (Int32 × Mem) ⊕ ((Mem)) → Option (Option Value × Mem)) (kk1 : ∀ (s3 : Int32) (s_ : Mem), SimR l G Y_L_law lim (K (.inl (s3, s_))) 18 [some (.inr (.inr 4000)), some (.inr (.inr x1)), some (.inr (.inr x2)), some (.inl s3)] [] s_) (kk2_0 : ∀ (s_ : Mem), SimR l G Y_L_law lim (K (.inr s_)) 1851 [none, none, none, none] [] s_) : Sim l G Y_L_law lim (f_L_law_J624 lim G.2.2.2.2 M x1 x2 x3 y0 y1 y2 y3) K 624 [some (.inr (.inr 4000)), some (.inr (.inr x1)), some (.inr (.inr x2)), some (.inl x3)] [.inl y3, .inl y2, .inl y1, .inr (.inr y0)] M := by
  unfold f_L_law_J624
  refine s_cV (Z := Y_X11_odds) (c := 11) (vs := [.inl y1, .inl y2, .inl y3]) (st := []) (rO := fun z => some (.inr (.inl z.1))) (mO := fun z => z.2) zk_X11_odds zi_X11_odds q866 rfl ⟨by decide, by decide⟩ ⟨rfl, rfl⟩ rfl rfl (Nat.le_of_ble_eq_true rfl) (by decide +kernel) (fun z hz => c_X11_odds hz) (fun z1 => ?_)
  change Sim l G Y_L_law lim _ _ 627 [some (.inr (.inr 4000)), some (.inr (.inr x1)), some (.inr (.inr x2)), some (.inl x3)] [.inr (.inl z1.1)] z1.2
  refine s_run (b := [(.aload_n 2, 1), (.aload_n 0, 1), (.iload_n 3, 1), (.iconst 1, 1), (.iadd, 1)]) 632 [some (.inr (.inr 4000)), some (.inr (.inr x1)), some (.inr (.inr x2)), some (.inl x3)] [.inl (x3 + (1 : Int32)), .inr (.inr 4000), .inr (.inr x2), .inr (.inl z1.1)] (by decide +kernel) rfl ?_
  refine s_sc (by decide +kernel) (fun v2 => ?_)
  refine s_run (b := [(.aload_n 0, 1), (.iload_n 3, 1), (.iconst 2, 1), (.iadd, 1)]) 637 [some (.inr (.inr 4000)), some (.inr (.inr x1)), some (.inr (.inr x2)), some (.inl x3)] [.inl (x3 + (2 : Int32)), .inr (.inr 4000), .inl v2, .inr (.inr x2), .inr (.inl z1.1)] (by decide +kernel) rfl ?_
  refine s_sc (by decide +kernel) (fun v3 => ?_)
  refine s_run (b := [(.aload_n 0, 1), (.iload_n 3, 1), (.iconst 3, 1), (.iadd, 1)]) 642 [some (.inr (.inr 4000)), some (.inr (.inr x1)), some (.inr (.inr x2)), some (.inl x3)] [.inl (x3 + (3 : Int32)), .inr (.inr 4000), .inl v3, .inl v2, .inr (.inr x2), .inr (.inl z1.1)] (by decide +kernel) rfl ?_
  refine s_sc (by decide +kernel) (fun v4 => ?_)
  refine s_if_eq (tgt := 650) (off := 7) (by decide +kernel) (by decide) (fun h5 => ?_) (fun h5 => ?_)
  · skip
    refine s_run (b := [(.iconst 0, 1)]) 651 [some (.inr (.inr 4000)), some (.inr (.inr x1)), some (.inr (.inr x2)), some (.inl x3)] [.inl (0 : Int32), .inl v3, .inl v2, .inr (.inr x2), .inr (.inl z1.1)] (by decide +kernel) rfl ?_
    exact s_lsub (ls' := [some (.inr (.inr 4000)), some (.inr (.inr x1)), some (.inr (.inr x2)), some (.inl x3)]) ⟨rfl, ⟨rfl, ⟨rfl, ⟨rfl, trivial⟩⟩⟩⟩ (J_L_law_651 z1.2 x1 x2 x3 z1.1 x2 v2 v3 (0 : Int32) K kk1 kk2_0)
  · skip
    refine s_run (b := [(.iconst 1, 1), (.goto 4, 3)]) 651 [some (.inr (.inr 4000)), some (.inr (.inr x1)), some (.inr (.inr x2)), some (.inl x3)] [.inl (1 : Int32), .inl v3, .inl v2, .inr (.inr x2), .inr (.inl z1.1)] (by decide +kernel) rfl ?_
    exact s_lsub (ls' := [some (.inr (.inr 4000)), some (.inr (.inr x1)), some (.inr (.inr x2)), some (.inl x3)]) ⟨rfl, ⟨rfl, ⟨rfl, ⟨rfl, trivial⟩⟩⟩⟩ (J_L_law_651 z1.2 x1 x2 x3 z1.1 x2 v2 v3 (1 : Int32) K kk1 kk2_0)
def f_L_law_J600 (lim : Nat × Nat) (X : List Int32) (M : Mem) (x1 : Nat) (x2 : Nat) (x3 : Int32)  : Option ((Int32 × Mem) ⊕ ((Mem))) :=
  (scI X (x3 + (1 : Int32))).bind fun v1 =>
  (scI X (x3 + (2 : Int32))).bind fun v2 =>
  (scI X (x3 + (3 : Int32))).bind fun v3 =>
  (if v3 = 0 then
    f_L_law_J624 lim X M x1 x2 x3 x1 v1 v2 (0 : Int32)
  else
    f_L_law_J624 lim X M x1 x2 x3 x1 v1 v2 (1 : Int32))
set_option maxHeartbeats 8000000 in
set_option maxRecDepth 20000 in
theorem J_L_law_600 {l : Launch} {G : Gv} {lim : Nat × Nat} (M : Mem) (x1 : Nat) (x2 : Nat) (x3 : Int32)  (K : (Int32 × Mem) ⊕ ((Mem)) → Option (Option Value × Mem)) (kk1 : ∀ (s3 : Int32) (s_ : Mem), SimR l G Y_L_law lim (K (.inl (s3, s_))) 18 [some (.inr (.inr 4000)), some (.inr (.inr x1)), some (.inr (.inr x2)), some (.inl s3)] [] s_) (kk2_0 : ∀ (s_ : Mem), SimR l G Y_L_law lim (K (.inr s_)) 1851 [none, none, none, none] [] s_) : Sim l G Y_L_law lim (f_L_law_J600 lim G.2.2.2.2 M x1 x2 x3) K 600 [some (.inr (.inr 4000)), some (.inr (.inr x1)), some (.inr (.inr x2)), some (.inl x3)] [] M := by
  unfold f_L_law_J600
  refine s_run (b := [(.aload_n 1, 1), (.aload_n 0, 1), (.iload_n 3, 1), (.iconst 1, 1), (.iadd, 1)]) 605 [some (.inr (.inr 4000)), some (.inr (.inr x1)), some (.inr (.inr x2)), some (.inl x3)] [.inl (x3 + (1 : Int32)), .inr (.inr 4000), .inr (.inr x1)] (by decide +kernel) rfl ?_
  refine s_sc (by decide +kernel) (fun v1 => ?_)
  refine s_run (b := [(.aload_n 0, 1), (.iload_n 3, 1), (.iconst 2, 1), (.iadd, 1)]) 610 [some (.inr (.inr 4000)), some (.inr (.inr x1)), some (.inr (.inr x2)), some (.inl x3)] [.inl (x3 + (2 : Int32)), .inr (.inr 4000), .inl v1, .inr (.inr x1)] (by decide +kernel) rfl ?_
  refine s_sc (by decide +kernel) (fun v2 => ?_)
  refine s_run (b := [(.aload_n 0, 1), (.iload_n 3, 1), (.iconst 3, 1), (.iadd, 1)]) 615 [some (.inr (.inr 4000)), some (.inr (.inr x1)), some (.inr (.inr x2)), some (.inl x3)] [.inl (x3 + (3 : Int32)), .inr (.inr 4000), .inl v2, .inl v1, .inr (.inr x1)] (by decide +kernel) rfl ?_
  refine s_sc (by decide +kernel) (fun v3 => ?_)
  refine s_if_eq (tgt := 623) (off := 7) (by decide +kernel) (by decide) (fun h4 => ?_) (fun h4 => ?_)
  · skip
    refine s_run (b := [(.iconst 0, 1)]) 624 [some (.inr (.inr 4000)), some (.inr (.inr x1)), some (.inr (.inr x2)), some (.inl x3)] [.inl (0 : Int32), .inl v2, .inl v1, .inr (.inr x1)] (by decide +kernel) rfl ?_
    exact s_lsub (ls' := [some (.inr (.inr 4000)), some (.inr (.inr x1)), some (.inr (.inr x2)), some (.inl x3)]) ⟨rfl, ⟨rfl, ⟨rfl, ⟨rfl, trivial⟩⟩⟩⟩ (J_L_law_624 M x1 x2 x3 x1 v1 v2 (0 : Int32) K kk1 kk2_0)
  · skip
    refine s_run (b := [(.iconst 1, 1), (.goto 4, 3)]) 624 [some (.inr (.inr 4000)), some (.inr (.inr x1)), some (.inr (.inr x2)), some (.inl x3)] [.inl (1 : Int32), .inl v2, .inl v1, .inr (.inr x1)] (by decide +kernel) rfl ?_
    exact s_lsub (ls' := [some (.inr (.inr 4000)), some (.inr (.inr x1)), some (.inr (.inr x2)), some (.inl x3)]) ⟨rfl, ⟨rfl, ⟨rfl, ⟨rfl, trivial⟩⟩⟩⟩ (J_L_law_624 M x1 x2 x3 x1 v1 v2 (1 : Int32) K kk1 kk2_0)
def f_L_law_J711 (lim : Nat × Nat) (X : List Int32) (M : Mem) (x1 : Nat) (x2 : Nat) (x3 : Int32) (y0 : Int64) (y1 : Nat) (y2 : Int32) (y3 : Int32) (y4 : Int32) : Option ((Int32 × Mem) ⊕ ((Mem))) :=
  (ob M 12 y1).bind fun _ => (f_X12_mean M y1 y2 y3 y4).bind fun z1 =>
  (if (lg_cmp y0 z1.1) = 0 then
    some (.inl ((x3 + (6 : Int32)), z1.2))
  else
    none)
set_option maxHeartbeats 8000000 in
set_option maxRecDepth 20000 in
theorem J_L_law_711 {l : Launch} {G : Gv} {lim : Nat × Nat} (M : Mem) (x1 : Nat) (x2 : Nat) (x3 : Int32) (y0 : Int64) (y1 : Nat) (y2 : Int32) (y3 : Int32) (y4 : Int32) (K : (Int32 × Mem) ⊕ ((Mem)) → Option (Option Value × Mem)) (kk1 : ∀ (s3 : Int32) (s_ : Mem), SimR l G Y_L_law lim (K (.inl (s3, s_))) 18 [some (.inr (.inr 4000)), some (.inr (.inr x1)), some (.inr (.inr x2)), some (.inl s3)] [] s_) (kk2_0 : ∀ (s_ : Mem), SimR l G Y_L_law lim (K (.inr s_)) 1851 [none, none, none, none] [] s_) : Sim l G Y_L_law lim (f_L_law_J711 lim G.2.2.2.2 M x1 x2 x3 y0 y1 y2 y3 y4) K 711 [some (.inr (.inr 4000)), some (.inr (.inr x1)), some (.inr (.inr x2)), some (.inl x3)] [.inl y4, .inl y3, .inl y2, .inr (.inr y1), .inr (.inl y0)] M := by
  unfold f_L_law_J711
  refine s_cV (Z := Y_X12_mean) (c := 12) (vs := [.inl y2, .inl y3, .inl y4]) (st := [.inr (.inl y0)]) (rO := fun z => some (.inr (.inl z.1))) (mO := fun z => z.2) zk_X12_mean zi_X12_mean q1679 rfl ⟨by decide, by decide⟩ ⟨rfl, rfl⟩ rfl rfl (Nat.le_of_ble_eq_true rfl) (by decide +kernel) (fun z hz => c_X12_mean hz) (fun z1 => ?_)
  change Sim l G Y_L_law lim _ _ 714 [some (.inr (.inr 4000)), some (.inr (.inr x1)), some (.inr (.inr x2)), some (.inl x3)] [.inr (.inl z1.1), .inr (.inl y0)] z1.2
  refine s_run (b := [(.lcmp, 1)]) 715 [some (.inr (.inr 4000)), some (.inr (.inr x1)), some (.inr (.inr x2)), some (.inl x3)] [.inl (lg_cmp y0 z1.1)] (by decide +kernel) rfl ?_
  refine s_if_eq (tgt := 1845) (off := 1130) (by decide +kernel) (by decide) (fun h2 => ?_) (fun h2 => ?_)
  · skip
    refine s_run (b := [(.iinc 3 6, 3), (.goto (-1830), 3)]) 18 [some (.inr (.inr 4000)), some (.inr (.inr x1)), some (.inr (.inr x2)), some (.inl (x3 + (6 : Int32)))] [] (by decide +kernel) rfl ?_
    exact s_lsub (ls' := [some (.inr (.inr 4000)), some (.inr (.inr x1)), some (.inr (.inr x2)), some (.inl (x3 + (6 : Int32)))]) ⟨rfl, ⟨rfl, ⟨rfl, ⟨rfl, trivial⟩⟩⟩⟩ (kk1 (x3 + (6 : Int32)) z1.2)
  · skip
    exact s_none
def f_L_law_J684 (lim : Nat × Nat) (X : List Int32) (M : Mem) (x1 : Nat) (x2 : Nat) (x3 : Int32) (y0 : Nat) (y1 : Int32) (y2 : Int32) (y3 : Int32) : Option ((Int32 × Mem) ⊕ ((Mem))) :=
  (ob M 11 y0).bind fun _ => (f_X11_mean M y0 y1 y2 y3).bind fun z1 =>
  (scI X (x3 + (1 : Int32))).bind fun v2 =>
  (scI X (x3 + (2 : Int32))).bind fun v3 =>
  (scI X (x3 + (3 : Int32))).bind fun v4 =>
  (if v4 = 0 then
    f_L_law_J711 lim X z1.2 x1 x2 x3 z1.1 x2 v2 v3 (0 : Int32)
  else
    f_L_law_J711 lim X z1.2 x1 x2 x3 z1.1 x2 v2 v3 (1 : Int32))
set_option maxHeartbeats 8000000 in
set_option maxRecDepth 20000 in
theorem J_L_law_684 {l : Launch} {G : Gv} {lim : Nat × Nat} (M : Mem) (x1 : Nat) (x2 : Nat) (x3 : Int32) (y0 : Nat) (y1 : Int32) (y2 : Int32) (y3 : Int32) (K : (Int32 × Mem) ⊕ ((Mem)) → Option (Option Value × Mem)) (kk1 : ∀ (s3 : Int32) (s_ : Mem), SimR l G Y_L_law lim (K (.inl (s3, s_))) 18 [some (.inr (.inr 4000)), some (.inr (.inr x1)), some (.inr (.inr x2)), some (.inl s3)] [] s_) (kk2_0 : ∀ (s_ : Mem), SimR l G Y_L_law lim (K (.inr s_)) 1851 [none, none, none, none] [] s_) : Sim l G Y_L_law lim (f_L_law_J684 lim G.2.2.2.2 M x1 x2 x3 y0 y1 y2 y3) K 684 [some (.inr (.inr 4000)), some (.inr (.inr x1)), some (.inr (.inr x2)), some (.inl x3)] [.inl y3, .inl y2, .inl y1, .inr (.inr y0)] M := by
  unfold f_L_law_J684
  refine s_cV (Z := Y_X11_mean) (c := 11) (vs := [.inl y1, .inl y2, .inl y3]) (st := []) (rO := fun z => some (.inr (.inl z.1))) (mO := fun z => z.2) zk_X11_mean zi_X11_mean q897 rfl ⟨by decide, by decide⟩ ⟨rfl, rfl⟩ rfl rfl (Nat.le_of_ble_eq_true rfl) (by decide +kernel) (fun z hz => c_X11_mean hz) (fun z1 => ?_)
  change Sim l G Y_L_law lim _ _ 687 [some (.inr (.inr 4000)), some (.inr (.inr x1)), some (.inr (.inr x2)), some (.inl x3)] [.inr (.inl z1.1)] z1.2
  refine s_run (b := [(.aload_n 2, 1), (.aload_n 0, 1), (.iload_n 3, 1), (.iconst 1, 1), (.iadd, 1)]) 692 [some (.inr (.inr 4000)), some (.inr (.inr x1)), some (.inr (.inr x2)), some (.inl x3)] [.inl (x3 + (1 : Int32)), .inr (.inr 4000), .inr (.inr x2), .inr (.inl z1.1)] (by decide +kernel) rfl ?_
  refine s_sc (by decide +kernel) (fun v2 => ?_)
  refine s_run (b := [(.aload_n 0, 1), (.iload_n 3, 1), (.iconst 2, 1), (.iadd, 1)]) 697 [some (.inr (.inr 4000)), some (.inr (.inr x1)), some (.inr (.inr x2)), some (.inl x3)] [.inl (x3 + (2 : Int32)), .inr (.inr 4000), .inl v2, .inr (.inr x2), .inr (.inl z1.1)] (by decide +kernel) rfl ?_
  refine s_sc (by decide +kernel) (fun v3 => ?_)
  refine s_run (b := [(.aload_n 0, 1), (.iload_n 3, 1), (.iconst 3, 1), (.iadd, 1)]) 702 [some (.inr (.inr 4000)), some (.inr (.inr x1)), some (.inr (.inr x2)), some (.inl x3)] [.inl (x3 + (3 : Int32)), .inr (.inr 4000), .inl v3, .inl v2, .inr (.inr x2), .inr (.inl z1.1)] (by decide +kernel) rfl ?_
  refine s_sc (by decide +kernel) (fun v4 => ?_)
  refine s_if_eq (tgt := 710) (off := 7) (by decide +kernel) (by decide) (fun h5 => ?_) (fun h5 => ?_)
  · skip
    refine s_run (b := [(.iconst 0, 1)]) 711 [some (.inr (.inr 4000)), some (.inr (.inr x1)), some (.inr (.inr x2)), some (.inl x3)] [.inl (0 : Int32), .inl v3, .inl v2, .inr (.inr x2), .inr (.inl z1.1)] (by decide +kernel) rfl ?_
    exact s_lsub (ls' := [some (.inr (.inr 4000)), some (.inr (.inr x1)), some (.inr (.inr x2)), some (.inl x3)]) ⟨rfl, ⟨rfl, ⟨rfl, ⟨rfl, trivial⟩⟩⟩⟩ (J_L_law_711 z1.2 x1 x2 x3 z1.1 x2 v2 v3 (0 : Int32) K kk1 kk2_0)
  · skip
    refine s_run (b := [(.iconst 1, 1), (.goto 4, 3)]) 711 [some (.inr (.inr 4000)), some (.inr (.inr x1)), some (.inr (.inr x2)), some (.inl x3)] [.inl (1 : Int32), .inl v3, .inl v2, .inr (.inr x2), .inr (.inl z1.1)] (by decide +kernel) rfl ?_
    exact s_lsub (ls' := [some (.inr (.inr 4000)), some (.inr (.inr x1)), some (.inr (.inr x2)), some (.inl x3)]) ⟨rfl, ⟨rfl, ⟨rfl, ⟨rfl, trivial⟩⟩⟩⟩ (J_L_law_711 z1.2 x1 x2 x3 z1.1 x2 v2 v3 (1 : Int32) K kk1 kk2_0)
def f_L_law_J660 (lim : Nat × Nat) (X : List Int32) (M : Mem) (x1 : Nat) (x2 : Nat) (x3 : Int32)  : Option ((Int32 × Mem) ⊕ ((Mem))) :=
  (scI X (x3 + (1 : Int32))).bind fun v1 =>
  (scI X (x3 + (2 : Int32))).bind fun v2 =>
  (scI X (x3 + (3 : Int32))).bind fun v3 =>
  (if v3 = 0 then
    f_L_law_J684 lim X M x1 x2 x3 x1 v1 v2 (0 : Int32)
  else
    f_L_law_J684 lim X M x1 x2 x3 x1 v1 v2 (1 : Int32))
set_option maxHeartbeats 8000000 in
set_option maxRecDepth 20000 in
theorem J_L_law_660 {l : Launch} {G : Gv} {lim : Nat × Nat} (M : Mem) (x1 : Nat) (x2 : Nat) (x3 : Int32)  (K : (Int32 × Mem) ⊕ ((Mem)) → Option (Option Value × Mem)) (kk1 : ∀ (s3 : Int32) (s_ : Mem), SimR l G Y_L_law lim (K (.inl (s3, s_))) 18 [some (.inr (.inr 4000)), some (.inr (.inr x1)), some (.inr (.inr x2)), some (.inl s3)] [] s_) (kk2_0 : ∀ (s_ : Mem), SimR l G Y_L_law lim (K (.inr s_)) 1851 [none, none, none, none] [] s_) : Sim l G Y_L_law lim (f_L_law_J660 lim G.2.2.2.2 M x1 x2 x3) K 660 [some (.inr (.inr 4000)), some (.inr (.inr x1)), some (.inr (.inr x2)), some (.inl x3)] [] M := by
  unfold f_L_law_J660
  refine s_run (b := [(.aload_n 1, 1), (.aload_n 0, 1), (.iload_n 3, 1), (.iconst 1, 1), (.iadd, 1)]) 665 [some (.inr (.inr 4000)), some (.inr (.inr x1)), some (.inr (.inr x2)), some (.inl x3)] [.inl (x3 + (1 : Int32)), .inr (.inr 4000), .inr (.inr x1)] (by decide +kernel) rfl ?_
  refine s_sc (by decide +kernel) (fun v1 => ?_)
  refine s_run (b := [(.aload_n 0, 1), (.iload_n 3, 1), (.iconst 2, 1), (.iadd, 1)]) 670 [some (.inr (.inr 4000)), some (.inr (.inr x1)), some (.inr (.inr x2)), some (.inl x3)] [.inl (x3 + (2 : Int32)), .inr (.inr 4000), .inl v1, .inr (.inr x1)] (by decide +kernel) rfl ?_
  refine s_sc (by decide +kernel) (fun v2 => ?_)
  refine s_run (b := [(.aload_n 0, 1), (.iload_n 3, 1), (.iconst 3, 1), (.iadd, 1)]) 675 [some (.inr (.inr 4000)), some (.inr (.inr x1)), some (.inr (.inr x2)), some (.inl x3)] [.inl (x3 + (3 : Int32)), .inr (.inr 4000), .inl v2, .inl v1, .inr (.inr x1)] (by decide +kernel) rfl ?_
  refine s_sc (by decide +kernel) (fun v3 => ?_)
  refine s_if_eq (tgt := 683) (off := 7) (by decide +kernel) (by decide) (fun h4 => ?_) (fun h4 => ?_)
  · skip
    refine s_run (b := [(.iconst 0, 1)]) 684 [some (.inr (.inr 4000)), some (.inr (.inr x1)), some (.inr (.inr x2)), some (.inl x3)] [.inl (0 : Int32), .inl v2, .inl v1, .inr (.inr x1)] (by decide +kernel) rfl ?_
    exact s_lsub (ls' := [some (.inr (.inr 4000)), some (.inr (.inr x1)), some (.inr (.inr x2)), some (.inl x3)]) ⟨rfl, ⟨rfl, ⟨rfl, ⟨rfl, trivial⟩⟩⟩⟩ (J_L_law_684 M x1 x2 x3 x1 v1 v2 (0 : Int32) K kk1 kk2_0)
  · skip
    refine s_run (b := [(.iconst 1, 1), (.goto 4, 3)]) 684 [some (.inr (.inr 4000)), some (.inr (.inr x1)), some (.inr (.inr x2)), some (.inl x3)] [.inl (1 : Int32), .inl v2, .inl v1, .inr (.inr x1)] (by decide +kernel) rfl ?_
    exact s_lsub (ls' := [some (.inr (.inr 4000)), some (.inr (.inr x1)), some (.inr (.inr x2)), some (.inl x3)]) ⟨rfl, ⟨rfl, ⟨rfl, ⟨rfl, trivial⟩⟩⟩⟩ (J_L_law_684 M x1 x2 x3 x1 v1 v2 (1 : Int32) K kk1 kk2_0)
def f_L_law_J720 (lim : Nat × Nat) (X : List Int32) (M : Mem) (x1 : Nat) (x2 : Nat) (x3 : Int32)  : Option ((Int32 × Mem) ⊕ ((Mem))) :=
  (scI X (x3 + (1 : Int32))).bind fun v1 =>
  (scI X (x3 + (2 : Int32))).bind fun v2 =>
  (scI X (x3 + (3 : Int32))).bind fun v3 =>
  (scI X (x3 + (4 : Int32))).bind fun v4 =>
  (ob M 11 x1).bind fun _ => (f_X11_rest M x1 v1 v2 v3 v4).bind fun z5 =>
  (scI X (x3 + (1 : Int32))).bind fun v6 =>
  (scI X (x3 + (2 : Int32))).bind fun v7 =>
  (scI X (x3 + (3 : Int32))).bind fun v8 =>
  (scI X (x3 + (4 : Int32))).bind fun v9 =>
  (ob z5.2 12 x2).bind fun _ => (f_X12_rest z5.2 x2 v6 v7 v8 v9).bind fun z10 =>
  (if z5.1 = z10.1 then
    some (.inl ((x3 + (6 : Int32)), z10.2))
  else
    none)
set_option maxHeartbeats 8000000 in
set_option maxRecDepth 20000 in
theorem J_L_law_720 {l : Launch} {G : Gv} {lim : Nat × Nat} (M : Mem) (x1 : Nat) (x2 : Nat) (x3 : Int32)  (K : (Int32 × Mem) ⊕ ((Mem)) → Option (Option Value × Mem)) (kk1 : ∀ (s3 : Int32) (s_ : Mem), SimR l G Y_L_law lim (K (.inl (s3, s_))) 18 [some (.inr (.inr 4000)), some (.inr (.inr x1)), some (.inr (.inr x2)), some (.inl s3)] [] s_) (kk2_0 : ∀ (s_ : Mem), SimR l G Y_L_law lim (K (.inr s_)) 1851 [none, none, none, none] [] s_) : Sim l G Y_L_law lim (f_L_law_J720 lim G.2.2.2.2 M x1 x2 x3) K 720 [some (.inr (.inr 4000)), some (.inr (.inr x1)), some (.inr (.inr x2)), some (.inl x3)] [] M := by
  unfold f_L_law_J720
  refine s_run (b := [(.aload_n 1, 1), (.aload_n 0, 1), (.iload_n 3, 1), (.iconst 1, 1), (.iadd, 1)]) 725 [some (.inr (.inr 4000)), some (.inr (.inr x1)), some (.inr (.inr x2)), some (.inl x3)] [.inl (x3 + (1 : Int32)), .inr (.inr 4000), .inr (.inr x1)] (by decide +kernel) rfl ?_
  refine s_sc (by decide +kernel) (fun v1 => ?_)
  refine s_run (b := [(.aload_n 0, 1), (.iload_n 3, 1), (.iconst 2, 1), (.iadd, 1)]) 730 [some (.inr (.inr 4000)), some (.inr (.inr x1)), some (.inr (.inr x2)), some (.inl x3)] [.inl (x3 + (2 : Int32)), .inr (.inr 4000), .inl v1, .inr (.inr x1)] (by decide +kernel) rfl ?_
  refine s_sc (by decide +kernel) (fun v2 => ?_)
  refine s_run (b := [(.aload_n 0, 1), (.iload_n 3, 1), (.iconst 3, 1), (.iadd, 1)]) 735 [some (.inr (.inr 4000)), some (.inr (.inr x1)), some (.inr (.inr x2)), some (.inl x3)] [.inl (x3 + (3 : Int32)), .inr (.inr 4000), .inl v2, .inl v1, .inr (.inr x1)] (by decide +kernel) rfl ?_
  refine s_sc (by decide +kernel) (fun v3 => ?_)
  refine s_run (b := [(.aload_n 0, 1), (.iload_n 3, 1), (.iconst 4, 1), (.iadd, 1)]) 740 [some (.inr (.inr 4000)), some (.inr (.inr x1)), some (.inr (.inr x2)), some (.inl x3)] [.inl (x3 + (4 : Int32)), .inr (.inr 4000), .inl v3, .inl v2, .inl v1, .inr (.inr x1)] (by decide +kernel) rfl ?_
  refine s_sc (by decide +kernel) (fun v4 => ?_)
  refine s_cV (Z := Y_X11_rest) (c := 11) (vs := [.inl v1, .inl v2, .inl v3, .inl v4]) (st := []) (rO := fun z => some (.inl z.1)) (mO := fun z => z.2) zk_X11_rest zi_X11_rest q901 rfl ⟨by decide, by decide⟩ ⟨rfl, rfl⟩ rfl rfl (Nat.le_of_ble_eq_true rfl) (by decide +kernel) (fun z hz => c_X11_rest hz) (fun z5 => ?_)
  change Sim l G Y_L_law lim _ _ 744 [some (.inr (.inr 4000)), some (.inr (.inr x1)), some (.inr (.inr x2)), some (.inl x3)] [.inl z5.1] z5.2
  refine s_run (b := [(.aload_n 2, 1), (.aload_n 0, 1), (.iload_n 3, 1), (.iconst 1, 1), (.iadd, 1)]) 749 [some (.inr (.inr 4000)), some (.inr (.inr x1)), some (.inr (.inr x2)), some (.inl x3)] [.inl (x3 + (1 : Int32)), .inr (.inr 4000), .inr (.inr x2), .inl z5.1] (by decide +kernel) rfl ?_
  refine s_sc (by decide +kernel) (fun v6 => ?_)
  refine s_run (b := [(.aload_n 0, 1), (.iload_n 3, 1), (.iconst 2, 1), (.iadd, 1)]) 754 [some (.inr (.inr 4000)), some (.inr (.inr x1)), some (.inr (.inr x2)), some (.inl x3)] [.inl (x3 + (2 : Int32)), .inr (.inr 4000), .inl v6, .inr (.inr x2), .inl z5.1] (by decide +kernel) rfl ?_
  refine s_sc (by decide +kernel) (fun v7 => ?_)
  refine s_run (b := [(.aload_n 0, 1), (.iload_n 3, 1), (.iconst 3, 1), (.iadd, 1)]) 759 [some (.inr (.inr 4000)), some (.inr (.inr x1)), some (.inr (.inr x2)), some (.inl x3)] [.inl (x3 + (3 : Int32)), .inr (.inr 4000), .inl v7, .inl v6, .inr (.inr x2), .inl z5.1] (by decide +kernel) rfl ?_
  refine s_sc (by decide +kernel) (fun v8 => ?_)
  refine s_run (b := [(.aload_n 0, 1), (.iload_n 3, 1), (.iconst 4, 1), (.iadd, 1)]) 764 [some (.inr (.inr 4000)), some (.inr (.inr x1)), some (.inr (.inr x2)), some (.inl x3)] [.inl (x3 + (4 : Int32)), .inr (.inr 4000), .inl v8, .inl v7, .inl v6, .inr (.inr x2), .inl z5.1] (by decide +kernel) rfl ?_
  refine s_sc (by decide +kernel) (fun v9 => ?_)
  refine s_cV (Z := Y_X12_rest) (c := 12) (vs := [.inl v6, .inl v7, .inl v8, .inl v9]) (st := [.inl z5.1]) (rO := fun z => some (.inl z.1)) (mO := fun z => z.2) zk_X12_rest zi_X12_rest q1683 rfl ⟨by decide, by decide⟩ ⟨rfl, rfl⟩ rfl rfl (Nat.le_of_ble_eq_true rfl) (by decide +kernel) (fun z hz => c_X12_rest hz) (fun z10 => ?_)
  change Sim l G Y_L_law lim _ _ 768 [some (.inr (.inr 4000)), some (.inr (.inr x1)), some (.inr (.inr x2)), some (.inl x3)] [.inl z10.1, .inl z5.1] z10.2
  refine s_ic_eq (tgt := 1845) (off := 1077) (by decide +kernel) (by decide) (fun h11 => ?_) (fun h11 => ?_)
  · skip
    refine s_run (b := [(.iinc 3 6, 3), (.goto (-1830), 3)]) 18 [some (.inr (.inr 4000)), some (.inr (.inr x1)), some (.inr (.inr x2)), some (.inl (x3 + (6 : Int32)))] [] (by decide +kernel) rfl ?_
    exact s_lsub (ls' := [some (.inr (.inr 4000)), some (.inr (.inr x1)), some (.inr (.inr x2)), some (.inl (x3 + (6 : Int32)))]) ⟨rfl, ⟨rfl, ⟨rfl, ⟨rfl, trivial⟩⟩⟩⟩ (kk1 (x3 + (6 : Int32)) z10.2)
  · skip
    exact s_none
def f_L_law_J773 (lim : Nat × Nat) (X : List Int32) (M : Mem) (x1 : Nat) (x2 : Nat) (x3 : Int32)  : Option ((Int32 × Mem) ⊕ ((Mem))) :=
  (scI X (x3 + (1 : Int32))).bind fun v1 =>
  (scI X (x3 + (2 : Int32))).bind fun v2 =>
  (ob M 11 x1).bind fun _ => (f_X11_button M x1 v1 v2).bind fun z3 =>
  (scI X (x3 + (1 : Int32))).bind fun v4 =>
  (scI X (x3 + (2 : Int32))).bind fun v5 =>
  (ob z3.2 12 x2).bind fun _ => (f_X12_button z3.2 x2 v4 v5).bind fun z6 =>
  (if (lg_cmp z3.1 z6.1) = 0 then
    some (.inl ((x3 + (6 : Int32)), z6.2))
  else
    none)
set_option maxHeartbeats 8000000 in
set_option maxRecDepth 20000 in
theorem J_L_law_773 {l : Launch} {G : Gv} {lim : Nat × Nat} (M : Mem) (x1 : Nat) (x2 : Nat) (x3 : Int32)  (K : (Int32 × Mem) ⊕ ((Mem)) → Option (Option Value × Mem)) (kk1 : ∀ (s3 : Int32) (s_ : Mem), SimR l G Y_L_law lim (K (.inl (s3, s_))) 18 [some (.inr (.inr 4000)), some (.inr (.inr x1)), some (.inr (.inr x2)), some (.inl s3)] [] s_) (kk2_0 : ∀ (s_ : Mem), SimR l G Y_L_law lim (K (.inr s_)) 1851 [none, none, none, none] [] s_) : Sim l G Y_L_law lim (f_L_law_J773 lim G.2.2.2.2 M x1 x2 x3) K 773 [some (.inr (.inr 4000)), some (.inr (.inr x1)), some (.inr (.inr x2)), some (.inl x3)] [] M := by
  unfold f_L_law_J773
  refine s_run (b := [(.aload_n 1, 1), (.aload_n 0, 1), (.iload_n 3, 1), (.iconst 1, 1), (.iadd, 1)]) 778 [some (.inr (.inr 4000)), some (.inr (.inr x1)), some (.inr (.inr x2)), some (.inl x3)] [.inl (x3 + (1 : Int32)), .inr (.inr 4000), .inr (.inr x1)] (by decide +kernel) rfl ?_
  refine s_sc (by decide +kernel) (fun v1 => ?_)
  refine s_run (b := [(.aload_n 0, 1), (.iload_n 3, 1), (.iconst 2, 1), (.iadd, 1)]) 783 [some (.inr (.inr 4000)), some (.inr (.inr x1)), some (.inr (.inr x2)), some (.inl x3)] [.inl (x3 + (2 : Int32)), .inr (.inr 4000), .inl v1, .inr (.inr x1)] (by decide +kernel) rfl ?_
  refine s_sc (by decide +kernel) (fun v2 => ?_)
  refine s_cV (Z := Y_X11_button) (c := 11) (vs := [.inl v1, .inl v2]) (st := []) (rO := fun z => some (.inr (.inl z.1))) (mO := fun z => z.2) zk_X11_button zi_X11_button q965 rfl ⟨by decide, by decide⟩ ⟨rfl, rfl⟩ rfl rfl (Nat.le_of_ble_eq_true rfl) (by decide +kernel) (fun z hz => c_X11_button hz) (fun z3 => ?_)
  change Sim l G Y_L_law lim _ _ 787 [some (.inr (.inr 4000)), some (.inr (.inr x1)), some (.inr (.inr x2)), some (.inl x3)] [.inr (.inl z3.1)] z3.2
  refine s_run (b := [(.aload_n 2, 1), (.aload_n 0, 1), (.iload_n 3, 1), (.iconst 1, 1), (.iadd, 1)]) 792 [some (.inr (.inr 4000)), some (.inr (.inr x1)), some (.inr (.inr x2)), some (.inl x3)] [.inl (x3 + (1 : Int32)), .inr (.inr 4000), .inr (.inr x2), .inr (.inl z3.1)] (by decide +kernel) rfl ?_
  refine s_sc (by decide +kernel) (fun v4 => ?_)
  refine s_run (b := [(.aload_n 0, 1), (.iload_n 3, 1), (.iconst 2, 1), (.iadd, 1)]) 797 [some (.inr (.inr 4000)), some (.inr (.inr x1)), some (.inr (.inr x2)), some (.inl x3)] [.inl (x3 + (2 : Int32)), .inr (.inr 4000), .inl v4, .inr (.inr x2), .inr (.inl z3.1)] (by decide +kernel) rfl ?_
  refine s_sc (by decide +kernel) (fun v5 => ?_)
  refine s_cV (Z := Y_X12_button) (c := 12) (vs := [.inl v4, .inl v5]) (st := [.inr (.inl z3.1)]) (rO := fun z => some (.inr (.inl z.1))) (mO := fun z => z.2) zk_X12_button zi_X12_button q1715 rfl ⟨by decide, by decide⟩ ⟨rfl, rfl⟩ rfl rfl (Nat.le_of_ble_eq_true rfl) (by decide +kernel) (fun z hz => c_X12_button hz) (fun z6 => ?_)
  change Sim l G Y_L_law lim _ _ 801 [some (.inr (.inr 4000)), some (.inr (.inr x1)), some (.inr (.inr x2)), some (.inl x3)] [.inr (.inl z6.1), .inr (.inl z3.1)] z6.2
  refine s_run (b := [(.lcmp, 1)]) 802 [some (.inr (.inr 4000)), some (.inr (.inr x1)), some (.inr (.inr x2)), some (.inl x3)] [.inl (lg_cmp z3.1 z6.1)] (by decide +kernel) rfl ?_
  refine s_if_eq (tgt := 1845) (off := 1043) (by decide +kernel) (by decide) (fun h7 => ?_) (fun h7 => ?_)
  · skip
    refine s_run (b := [(.iinc 3 6, 3), (.goto (-1830), 3)]) 18 [some (.inr (.inr 4000)), some (.inr (.inr x1)), some (.inr (.inr x2)), some (.inl (x3 + (6 : Int32)))] [] (by decide +kernel) rfl ?_
    exact s_lsub (ls' := [some (.inr (.inr 4000)), some (.inr (.inr x1)), some (.inr (.inr x2)), some (.inl (x3 + (6 : Int32)))]) ⟨rfl, ⟨rfl, ⟨rfl, ⟨rfl, trivial⟩⟩⟩⟩ (kk1 (x3 + (6 : Int32)) z6.2)
  · skip
    exact s_none
def f_L_law_J807 (lim : Nat × Nat) (X : List Int32) (M : Mem) (x1 : Nat) (x2 : Nat) (x3 : Int32)  : Option ((Int32 × Mem) ⊕ ((Mem))) :=
  (scI X (x3 + (1 : Int32))).bind fun v1 =>
  (scI X (x3 + (2 : Int32))).bind fun v2 =>
  (scI X (x3 + (3 : Int32))).bind fun v3 =>
  (ob M 11 x1).bind fun _ => (f_X11_fact M x1 v1 v2 v3).bind fun v4 =>
  (scI X (x3 + (1 : Int32))).bind fun v5 =>
  (scI X (x3 + (2 : Int32))).bind fun v6 =>
  (scI X (x3 + (3 : Int32))).bind fun v7 =>
  (ob M 12 x2).bind fun _ => (f_X12_fact M x2 v5 v6 v7).bind fun z8 =>
  (if v4 = z8.1 then
    some (.inl ((x3 + (6 : Int32)), z8.2))
  else
    none)
set_option maxHeartbeats 8000000 in
set_option maxRecDepth 20000 in
theorem J_L_law_807 {l : Launch} {G : Gv} {lim : Nat × Nat} (M : Mem) (x1 : Nat) (x2 : Nat) (x3 : Int32)  (K : (Int32 × Mem) ⊕ ((Mem)) → Option (Option Value × Mem)) (kk1 : ∀ (s3 : Int32) (s_ : Mem), SimR l G Y_L_law lim (K (.inl (s3, s_))) 18 [some (.inr (.inr 4000)), some (.inr (.inr x1)), some (.inr (.inr x2)), some (.inl s3)] [] s_) (kk2_0 : ∀ (s_ : Mem), SimR l G Y_L_law lim (K (.inr s_)) 1851 [none, none, none, none] [] s_) : Sim l G Y_L_law lim (f_L_law_J807 lim G.2.2.2.2 M x1 x2 x3) K 807 [some (.inr (.inr 4000)), some (.inr (.inr x1)), some (.inr (.inr x2)), some (.inl x3)] [] M := by
  unfold f_L_law_J807
  refine s_run (b := [(.aload_n 1, 1), (.aload_n 0, 1), (.iload_n 3, 1), (.iconst 1, 1), (.iadd, 1)]) 812 [some (.inr (.inr 4000)), some (.inr (.inr x1)), some (.inr (.inr x2)), some (.inl x3)] [.inl (x3 + (1 : Int32)), .inr (.inr 4000), .inr (.inr x1)] (by decide +kernel) rfl ?_
  refine s_sc (by decide +kernel) (fun v1 => ?_)
  refine s_run (b := [(.aload_n 0, 1), (.iload_n 3, 1), (.iconst 2, 1), (.iadd, 1)]) 817 [some (.inr (.inr 4000)), some (.inr (.inr x1)), some (.inr (.inr x2)), some (.inl x3)] [.inl (x3 + (2 : Int32)), .inr (.inr 4000), .inl v1, .inr (.inr x1)] (by decide +kernel) rfl ?_
  refine s_sc (by decide +kernel) (fun v2 => ?_)
  refine s_run (b := [(.aload_n 0, 1), (.iload_n 3, 1), (.iconst 3, 1), (.iadd, 1)]) 822 [some (.inr (.inr 4000)), some (.inr (.inr x1)), some (.inr (.inr x2)), some (.inl x3)] [.inl (x3 + (3 : Int32)), .inr (.inr 4000), .inl v2, .inl v1, .inr (.inr x1)] (by decide +kernel) rfl ?_
  refine s_sc (by decide +kernel) (fun v3 => ?_)
  refine s_cV (Z := Y_X11_fact) (c := 11) (vs := [.inl v1, .inl v2, .inl v3]) (st := []) (rO := fun z => some (.inl z)) (mO := fun _ => M) zk_X11_fact zi_X11_fact q977 rfl ⟨by decide, by decide⟩ ⟨rfl, rfl⟩ rfl rfl (Nat.le_of_ble_eq_true rfl) (by decide +kernel) (fun z hz => c_X11_fact hz) (fun v4 => ?_)
  change Sim l G Y_L_law lim _ _ 826 [some (.inr (.inr 4000)), some (.inr (.inr x1)), some (.inr (.inr x2)), some (.inl x3)] [.inl v4] M
  refine s_run (b := [(.aload_n 2, 1), (.aload_n 0, 1), (.iload_n 3, 1), (.iconst 1, 1), (.iadd, 1)]) 831 [some (.inr (.inr 4000)), some (.inr (.inr x1)), some (.inr (.inr x2)), some (.inl x3)] [.inl (x3 + (1 : Int32)), .inr (.inr 4000), .inr (.inr x2), .inl v4] (by decide +kernel) rfl ?_
  refine s_sc (by decide +kernel) (fun v5 => ?_)
  refine s_run (b := [(.aload_n 0, 1), (.iload_n 3, 1), (.iconst 2, 1), (.iadd, 1)]) 836 [some (.inr (.inr 4000)), some (.inr (.inr x1)), some (.inr (.inr x2)), some (.inl x3)] [.inl (x3 + (2 : Int32)), .inr (.inr 4000), .inl v5, .inr (.inr x2), .inl v4] (by decide +kernel) rfl ?_
  refine s_sc (by decide +kernel) (fun v6 => ?_)
  refine s_run (b := [(.aload_n 0, 1), (.iload_n 3, 1), (.iconst 3, 1), (.iadd, 1)]) 841 [some (.inr (.inr 4000)), some (.inr (.inr x1)), some (.inr (.inr x2)), some (.inl x3)] [.inl (x3 + (3 : Int32)), .inr (.inr 4000), .inl v6, .inl v5, .inr (.inr x2), .inl v4] (by decide +kernel) rfl ?_
  refine s_sc (by decide +kernel) (fun v7 => ?_)
  refine s_cV (Z := Y_X12_fact) (c := 12) (vs := [.inl v5, .inl v6, .inl v7]) (st := [.inl v4]) (rO := fun z => some (.inl z.1)) (mO := fun z => z.2) zk_X12_fact zi_X12_fact q1731 rfl ⟨by decide, by decide⟩ ⟨rfl, rfl⟩ rfl rfl (Nat.le_of_ble_eq_true rfl) (by decide +kernel) (fun z hz => c_X12_fact hz) (fun z8 => ?_)
  change Sim l G Y_L_law lim _ _ 845 [some (.inr (.inr 4000)), some (.inr (.inr x1)), some (.inr (.inr x2)), some (.inl x3)] [.inl z8.1, .inl v4] z8.2
  refine s_ic_eq (tgt := 1845) (off := 1000) (by decide +kernel) (by decide) (fun h9 => ?_) (fun h9 => ?_)
  · skip
    refine s_run (b := [(.iinc 3 6, 3), (.goto (-1830), 3)]) 18 [some (.inr (.inr 4000)), some (.inr (.inr x1)), some (.inr (.inr x2)), some (.inl (x3 + (6 : Int32)))] [] (by decide +kernel) rfl ?_
    exact s_lsub (ls' := [some (.inr (.inr 4000)), some (.inr (.inr x1)), some (.inr (.inr x2)), some (.inl (x3 + (6 : Int32)))]) ⟨rfl, ⟨rfl, ⟨rfl, ⟨rfl, trivial⟩⟩⟩⟩ (kk1 (x3 + (6 : Int32)) z8.2)
  · skip
    exact s_none
def f_L_law_J850 (lim : Nat × Nat) (X : List Int32) (M : Mem) (x1 : Nat) (x2 : Nat) (x3 : Int32)  : Option ((Int32 × Mem) ⊕ ((Mem))) :=
  (scI X (x3 + (1 : Int32))).bind fun v1 =>
  (scI X (x3 + (2 : Int32))).bind fun v2 =>
  (scI X (x3 + (3 : Int32))).bind fun v3 =>
  (ob M 11 x1).bind fun _ => (f_X11_fits M x1 v1 v2 v3).bind fun z4 =>
  (scI X (x3 + (1 : Int32))).bind fun v5 =>
  (scI X (x3 + (2 : Int32))).bind fun v6 =>
  (scI X (x3 + (3 : Int32))).bind fun v7 =>
  (ob z4.2 12 x2).bind fun _ => (f_X12_fits z4.2 x2 v5 v6 v7).bind fun z8 =>
  (if z4.1 = z8.1 then
    some (.inl ((x3 + (6 : Int32)), z8.2))
  else
    none)
set_option maxHeartbeats 8000000 in
set_option maxRecDepth 20000 in
theorem J_L_law_850 {l : Launch} {G : Gv} {lim : Nat × Nat} (M : Mem) (x1 : Nat) (x2 : Nat) (x3 : Int32)  (K : (Int32 × Mem) ⊕ ((Mem)) → Option (Option Value × Mem)) (kk1 : ∀ (s3 : Int32) (s_ : Mem), SimR l G Y_L_law lim (K (.inl (s3, s_))) 18 [some (.inr (.inr 4000)), some (.inr (.inr x1)), some (.inr (.inr x2)), some (.inl s3)] [] s_) (kk2_0 : ∀ (s_ : Mem), SimR l G Y_L_law lim (K (.inr s_)) 1851 [none, none, none, none] [] s_) : Sim l G Y_L_law lim (f_L_law_J850 lim G.2.2.2.2 M x1 x2 x3) K 850 [some (.inr (.inr 4000)), some (.inr (.inr x1)), some (.inr (.inr x2)), some (.inl x3)] [] M := by
  unfold f_L_law_J850
  refine s_run (b := [(.aload_n 1, 1), (.aload_n 0, 1), (.iload_n 3, 1), (.iconst 1, 1), (.iadd, 1)]) 855 [some (.inr (.inr 4000)), some (.inr (.inr x1)), some (.inr (.inr x2)), some (.inl x3)] [.inl (x3 + (1 : Int32)), .inr (.inr 4000), .inr (.inr x1)] (by decide +kernel) rfl ?_
  refine s_sc (by decide +kernel) (fun v1 => ?_)
  refine s_run (b := [(.aload_n 0, 1), (.iload_n 3, 1), (.iconst 2, 1), (.iadd, 1)]) 860 [some (.inr (.inr 4000)), some (.inr (.inr x1)), some (.inr (.inr x2)), some (.inl x3)] [.inl (x3 + (2 : Int32)), .inr (.inr 4000), .inl v1, .inr (.inr x1)] (by decide +kernel) rfl ?_
  refine s_sc (by decide +kernel) (fun v2 => ?_)
  refine s_run (b := [(.aload_n 0, 1), (.iload_n 3, 1), (.iconst 3, 1), (.iadd, 1)]) 865 [some (.inr (.inr 4000)), some (.inr (.inr x1)), some (.inr (.inr x2)), some (.inl x3)] [.inl (x3 + (3 : Int32)), .inr (.inr 4000), .inl v2, .inl v1, .inr (.inr x1)] (by decide +kernel) rfl ?_
  refine s_sc (by decide +kernel) (fun v3 => ?_)
  refine s_cV (Z := Y_X11_fits) (c := 11) (vs := [.inl v1, .inl v2, .inl v3]) (st := []) (rO := fun z => some (.inl z.1)) (mO := fun z => z.2) zk_X11_fits zi_X11_fits q989 rfl ⟨by decide, by decide⟩ ⟨rfl, rfl⟩ rfl rfl (Nat.le_of_ble_eq_true rfl) (by decide +kernel) (fun z hz => c_X11_fits hz) (fun z4 => ?_)
  change Sim l G Y_L_law lim _ _ 869 [some (.inr (.inr 4000)), some (.inr (.inr x1)), some (.inr (.inr x2)), some (.inl x3)] [.inl z4.1] z4.2
  refine s_run (b := [(.aload_n 2, 1), (.aload_n 0, 1), (.iload_n 3, 1), (.iconst 1, 1), (.iadd, 1)]) 874 [some (.inr (.inr 4000)), some (.inr (.inr x1)), some (.inr (.inr x2)), some (.inl x3)] [.inl (x3 + (1 : Int32)), .inr (.inr 4000), .inr (.inr x2), .inl z4.1] (by decide +kernel) rfl ?_
  refine s_sc (by decide +kernel) (fun v5 => ?_)
  refine s_run (b := [(.aload_n 0, 1), (.iload_n 3, 1), (.iconst 2, 1), (.iadd, 1)]) 879 [some (.inr (.inr 4000)), some (.inr (.inr x1)), some (.inr (.inr x2)), some (.inl x3)] [.inl (x3 + (2 : Int32)), .inr (.inr 4000), .inl v5, .inr (.inr x2), .inl z4.1] (by decide +kernel) rfl ?_
  refine s_sc (by decide +kernel) (fun v6 => ?_)
  refine s_run (b := [(.aload_n 0, 1), (.iload_n 3, 1), (.iconst 3, 1), (.iadd, 1)]) 884 [some (.inr (.inr 4000)), some (.inr (.inr x1)), some (.inr (.inr x2)), some (.inl x3)] [.inl (x3 + (3 : Int32)), .inr (.inr 4000), .inl v6, .inl v5, .inr (.inr x2), .inl z4.1] (by decide +kernel) rfl ?_
  refine s_sc (by decide +kernel) (fun v7 => ?_)
  refine s_cV (Z := Y_X12_fits) (c := 12) (vs := [.inl v5, .inl v6, .inl v7]) (st := [.inl z4.1]) (rO := fun z => some (.inl z.1)) (mO := fun z => z.2) zk_X12_fits zi_X12_fits q1739 rfl ⟨by decide, by decide⟩ ⟨rfl, rfl⟩ rfl rfl (Nat.le_of_ble_eq_true rfl) (by decide +kernel) (fun z hz => c_X12_fits hz) (fun z8 => ?_)
  change Sim l G Y_L_law lim _ _ 888 [some (.inr (.inr 4000)), some (.inr (.inr x1)), some (.inr (.inr x2)), some (.inl x3)] [.inl z8.1, .inl z4.1] z8.2
  refine s_ic_eq (tgt := 1845) (off := 957) (by decide +kernel) (by decide) (fun h9 => ?_) (fun h9 => ?_)
  · skip
    refine s_run (b := [(.iinc 3 6, 3), (.goto (-1830), 3)]) 18 [some (.inr (.inr 4000)), some (.inr (.inr x1)), some (.inr (.inr x2)), some (.inl (x3 + (6 : Int32)))] [] (by decide +kernel) rfl ?_
    exact s_lsub (ls' := [some (.inr (.inr 4000)), some (.inr (.inr x1)), some (.inr (.inr x2)), some (.inl (x3 + (6 : Int32)))]) ⟨rfl, ⟨rfl, ⟨rfl, ⟨rfl, trivial⟩⟩⟩⟩ (kk1 (x3 + (6 : Int32)) z8.2)
  · skip
    exact s_none
def f_L_law_J893 (lim : Nat × Nat) (X : List Int32) (M : Mem) (x1 : Nat) (x2 : Nat) (x3 : Int32)  : Option ((Int32 × Mem) ⊕ ((Mem))) :=
  (scI X (x3 + (1 : Int32))).bind fun v1 =>
  (scI X (x3 + (2 : Int32))).bind fun v2 =>
  (scI X (x3 + (3 : Int32))).bind fun v3 =>
  (scI X (x3 + (4 : Int32))).bind fun v4 =>
  (ob M 11 x1).bind fun _ => (f_X11_drawn M x1 v1 v2 v3 v4).bind fun z5 =>
  (scI X (x3 + (1 : Int32))).bind fun v6 =>
  (scI X (x3 + (2 : Int32))).bind fun v7 =>
  (scI X (x3 + (3 : Int32))).bind fun v8 =>
  (scI X (x3 + (4 : Int32))).bind fun v9 =>
  (ob z5.2 12 x2).bind fun _ => (f_X12_drawn z5.2 x2 v6 v7 v8 v9).bind fun z10 =>
  (if z5.1 = z10.1 then
    some (.inl ((x3 + (6 : Int32)), z10.2))
  else
    none)
set_option maxHeartbeats 8000000 in
set_option maxRecDepth 20000 in
theorem J_L_law_893 {l : Launch} {G : Gv} {lim : Nat × Nat} (M : Mem) (x1 : Nat) (x2 : Nat) (x3 : Int32)  (K : (Int32 × Mem) ⊕ ((Mem)) → Option (Option Value × Mem)) (kk1 : ∀ (s3 : Int32) (s_ : Mem), SimR l G Y_L_law lim (K (.inl (s3, s_))) 18 [some (.inr (.inr 4000)), some (.inr (.inr x1)), some (.inr (.inr x2)), some (.inl s3)] [] s_) (kk2_0 : ∀ (s_ : Mem), SimR l G Y_L_law lim (K (.inr s_)) 1851 [none, none, none, none] [] s_) : Sim l G Y_L_law lim (f_L_law_J893 lim G.2.2.2.2 M x1 x2 x3) K 893 [some (.inr (.inr 4000)), some (.inr (.inr x1)), some (.inr (.inr x2)), some (.inl x3)] [] M := by
  unfold f_L_law_J893
  refine s_run (b := [(.aload_n 1, 1), (.aload_n 0, 1), (.iload_n 3, 1), (.iconst 1, 1), (.iadd, 1)]) 898 [some (.inr (.inr 4000)), some (.inr (.inr x1)), some (.inr (.inr x2)), some (.inl x3)] [.inl (x3 + (1 : Int32)), .inr (.inr 4000), .inr (.inr x1)] (by decide +kernel) rfl ?_
  refine s_sc (by decide +kernel) (fun v1 => ?_)
  refine s_run (b := [(.aload_n 0, 1), (.iload_n 3, 1), (.iconst 2, 1), (.iadd, 1)]) 903 [some (.inr (.inr 4000)), some (.inr (.inr x1)), some (.inr (.inr x2)), some (.inl x3)] [.inl (x3 + (2 : Int32)), .inr (.inr 4000), .inl v1, .inr (.inr x1)] (by decide +kernel) rfl ?_
  refine s_sc (by decide +kernel) (fun v2 => ?_)
  refine s_run (b := [(.aload_n 0, 1), (.iload_n 3, 1), (.iconst 3, 1), (.iadd, 1)]) 908 [some (.inr (.inr 4000)), some (.inr (.inr x1)), some (.inr (.inr x2)), some (.inl x3)] [.inl (x3 + (3 : Int32)), .inr (.inr 4000), .inl v2, .inl v1, .inr (.inr x1)] (by decide +kernel) rfl ?_
  refine s_sc (by decide +kernel) (fun v3 => ?_)
  refine s_run (b := [(.aload_n 0, 1), (.iload_n 3, 1), (.iconst 4, 1), (.iadd, 1)]) 913 [some (.inr (.inr 4000)), some (.inr (.inr x1)), some (.inr (.inr x2)), some (.inl x3)] [.inl (x3 + (4 : Int32)), .inr (.inr 4000), .inl v3, .inl v2, .inl v1, .inr (.inr x1)] (by decide +kernel) rfl ?_
  refine s_sc (by decide +kernel) (fun v4 => ?_)
  refine s_cV (Z := Y_X11_drawn) (c := 11) (vs := [.inl v1, .inl v2, .inl v3, .inl v4]) (st := []) (rO := fun z => some (.inl z.1)) (mO := fun z => z.2) zk_X11_drawn zi_X11_drawn q1040 rfl ⟨by decide, by decide⟩ ⟨rfl, rfl⟩ rfl rfl (Nat.le_of_ble_eq_true rfl) (by decide +kernel) (fun z hz => c_X11_drawn hz) (fun z5 => ?_)
  change Sim l G Y_L_law lim _ _ 917 [some (.inr (.inr 4000)), some (.inr (.inr x1)), some (.inr (.inr x2)), some (.inl x3)] [.inl z5.1] z5.2
  refine s_run (b := [(.aload_n 2, 1), (.aload_n 0, 1), (.iload_n 3, 1), (.iconst 1, 1), (.iadd, 1)]) 922 [some (.inr (.inr 4000)), some (.inr (.inr x1)), some (.inr (.inr x2)), some (.inl x3)] [.inl (x3 + (1 : Int32)), .inr (.inr 4000), .inr (.inr x2), .inl z5.1] (by decide +kernel) rfl ?_
  refine s_sc (by decide +kernel) (fun v6 => ?_)
  refine s_run (b := [(.aload_n 0, 1), (.iload_n 3, 1), (.iconst 2, 1), (.iadd, 1)]) 927 [some (.inr (.inr 4000)), some (.inr (.inr x1)), some (.inr (.inr x2)), some (.inl x3)] [.inl (x3 + (2 : Int32)), .inr (.inr 4000), .inl v6, .inr (.inr x2), .inl z5.1] (by decide +kernel) rfl ?_
  refine s_sc (by decide +kernel) (fun v7 => ?_)
  refine s_run (b := [(.aload_n 0, 1), (.iload_n 3, 1), (.iconst 3, 1), (.iadd, 1)]) 932 [some (.inr (.inr 4000)), some (.inr (.inr x1)), some (.inr (.inr x2)), some (.inl x3)] [.inl (x3 + (3 : Int32)), .inr (.inr 4000), .inl v7, .inl v6, .inr (.inr x2), .inl z5.1] (by decide +kernel) rfl ?_
  refine s_sc (by decide +kernel) (fun v8 => ?_)
  refine s_run (b := [(.aload_n 0, 1), (.iload_n 3, 1), (.iconst 4, 1), (.iadd, 1)]) 937 [some (.inr (.inr 4000)), some (.inr (.inr x1)), some (.inr (.inr x2)), some (.inl x3)] [.inl (x3 + (4 : Int32)), .inr (.inr 4000), .inl v8, .inl v7, .inl v6, .inr (.inr x2), .inl z5.1] (by decide +kernel) rfl ?_
  refine s_sc (by decide +kernel) (fun v9 => ?_)
  refine s_cV (Z := Y_X12_drawn) (c := 12) (vs := [.inl v6, .inl v7, .inl v8, .inl v9]) (st := [.inl z5.1]) (rO := fun z => some (.inl z.1)) (mO := fun z => z.2) zk_X12_drawn zi_X12_drawn q1914 rfl ⟨by decide, by decide⟩ ⟨rfl, rfl⟩ rfl rfl (Nat.le_of_ble_eq_true rfl) (by decide +kernel) (fun z hz => c_X12_drawn hz) (fun z10 => ?_)
  change Sim l G Y_L_law lim _ _ 941 [some (.inr (.inr 4000)), some (.inr (.inr x1)), some (.inr (.inr x2)), some (.inl x3)] [.inl z10.1, .inl z5.1] z10.2
  refine s_ic_eq (tgt := 1845) (off := 904) (by decide +kernel) (by decide) (fun h11 => ?_) (fun h11 => ?_)
  · skip
    refine s_run (b := [(.iinc 3 6, 3), (.goto (-1830), 3)]) 18 [some (.inr (.inr 4000)), some (.inr (.inr x1)), some (.inr (.inr x2)), some (.inl (x3 + (6 : Int32)))] [] (by decide +kernel) rfl ?_
    exact s_lsub (ls' := [some (.inr (.inr 4000)), some (.inr (.inr x1)), some (.inr (.inr x2)), some (.inl (x3 + (6 : Int32)))]) ⟨rfl, ⟨rfl, ⟨rfl, ⟨rfl, trivial⟩⟩⟩⟩ (kk1 (x3 + (6 : Int32)) z10.2)
  · skip
    exact s_none
def f_L_law_J997 (lim : Nat × Nat) (X : List Int32) (M : Mem) (x1 : Nat) (x2 : Nat) (x3 : Int32) (y0 : Int32) (y1 : Nat) (y2 : Int32) (y3 : Int32) (y4 : Int32) : Option ((Int32 × Mem) ⊕ ((Mem))) :=
  (ob M 12 y1).bind fun _ => (f_X12_lunch M y1 y2 y3 y4).bind fun z1 =>
  (if y0 = z1.1 then
    some (.inl ((x3 + (6 : Int32)), z1.2))
  else
    none)
set_option maxHeartbeats 8000000 in
set_option maxRecDepth 20000 in
theorem J_L_law_997 {l : Launch} {G : Gv} {lim : Nat × Nat} (M : Mem) (x1 : Nat) (x2 : Nat) (x3 : Int32) (y0 : Int32) (y1 : Nat) (y2 : Int32) (y3 : Int32) (y4 : Int32) (K : (Int32 × Mem) ⊕ ((Mem)) → Option (Option Value × Mem)) (kk1 : ∀ (s3 : Int32) (s_ : Mem), SimR l G Y_L_law lim (K (.inl (s3, s_))) 18 [some (.inr (.inr 4000)), some (.inr (.inr x1)), some (.inr (.inr x2)), some (.inl s3)] [] s_) (kk2_0 : ∀ (s_ : Mem), SimR l G Y_L_law lim (K (.inr s_)) 1851 [none, none, none, none] [] s_) : Sim l G Y_L_law lim (f_L_law_J997 lim G.2.2.2.2 M x1 x2 x3 y0 y1 y2 y3 y4) K 997 [some (.inr (.inr 4000)), some (.inr (.inr x1)), some (.inr (.inr x2)), some (.inl x3)] [.inl y4, .inl y3, .inl y2, .inr (.inr y1), .inl y0] M := by
  unfold f_L_law_J997
  refine s_cV (Z := Y_X12_lunch) (c := 12) (vs := [.inl y2, .inl y3, .inl y4]) (st := [.inl y0]) (rO := fun z => some (.inl z.1)) (mO := fun z => z.2) zk_X12_lunch zi_X12_lunch q1771 rfl ⟨by decide, by decide⟩ ⟨rfl, rfl⟩ rfl rfl (Nat.le_of_ble_eq_true rfl) (by decide +kernel) (fun z hz => c_X12_lunch hz) (fun z1 => ?_)
  change Sim l G Y_L_law lim _ _ 1000 [some (.inr (.inr 4000)), some (.inr (.inr x1)), some (.inr (.inr x2)), some (.inl x3)] [.inl z1.1, .inl y0] z1.2
  refine s_ic_eq (tgt := 1845) (off := 845) (by decide +kernel) (by decide) (fun h2 => ?_) (fun h2 => ?_)
  · skip
    refine s_run (b := [(.iinc 3 6, 3), (.goto (-1830), 3)]) 18 [some (.inr (.inr 4000)), some (.inr (.inr x1)), some (.inr (.inr x2)), some (.inl (x3 + (6 : Int32)))] [] (by decide +kernel) rfl ?_
    exact s_lsub (ls' := [some (.inr (.inr 4000)), some (.inr (.inr x1)), some (.inr (.inr x2)), some (.inl (x3 + (6 : Int32)))]) ⟨rfl, ⟨rfl, ⟨rfl, ⟨rfl, trivial⟩⟩⟩⟩ (kk1 (x3 + (6 : Int32)) z1.2)
  · skip
    exact s_none
def f_L_law_J970 (lim : Nat × Nat) (X : List Int32) (M : Mem) (x1 : Nat) (x2 : Nat) (x3 : Int32) (y0 : Nat) (y1 : Int32) (y2 : Int32) (y3 : Int32) : Option ((Int32 × Mem) ⊕ ((Mem))) :=
  (ob M 11 y0).bind fun _ => (f_X11_lunch M y0 y1 y2 y3).bind fun z1 =>
  (scI X (x3 + (1 : Int32))).bind fun v2 =>
  (scI X (x3 + (2 : Int32))).bind fun v3 =>
  (scI X (x3 + (3 : Int32))).bind fun v4 =>
  (if v4 = 0 then
    f_L_law_J997 lim X z1.2 x1 x2 x3 z1.1 x2 v2 v3 (0 : Int32)
  else
    f_L_law_J997 lim X z1.2 x1 x2 x3 z1.1 x2 v2 v3 (1 : Int32))
set_option maxHeartbeats 8000000 in
set_option maxRecDepth 20000 in
theorem J_L_law_970 {l : Launch} {G : Gv} {lim : Nat × Nat} (M : Mem) (x1 : Nat) (x2 : Nat) (x3 : Int32) (y0 : Nat) (y1 : Int32) (y2 : Int32) (y3 : Int32) (K : (Int32 × Mem) ⊕ ((Mem)) → Option (Option Value × Mem)) (kk1 : ∀ (s3 : Int32) (s_ : Mem), SimR l G Y_L_law lim (K (.inl (s3, s_))) 18 [some (.inr (.inr 4000)), some (.inr (.inr x1)), some (.inr (.inr x2)), some (.inl s3)] [] s_) (kk2_0 : ∀ (s_ : Mem), SimR l G Y_L_law lim (K (.inr s_)) 1851 [none, none, none, none] [] s_) : Sim l G Y_L_law lim (f_L_law_J970 lim G.2.2.2.2 M x1 x2 x3 y0 y1 y2 y3) K 970 [some (.inr (.inr 4000)), some (.inr (.inr x1)), some (.inr (.inr x2)), some (.inl x3)] [.inl y3, .inl y2, .inl y1, .inr (.inr y0)] M := by
  unfold f_L_law_J970
  refine s_cV (Z := Y_X11_lunch) (c := 11) (vs := [.inl y1, .inl y2, .inl y3]) (st := []) (rO := fun z => some (.inl z.1)) (mO := fun z => z.2) zk_X11_lunch zi_X11_lunch q1053 rfl ⟨by decide, by decide⟩ ⟨rfl, rfl⟩ rfl rfl (Nat.le_of_ble_eq_true rfl) (by decide +kernel) (fun z hz => c_X11_lunch hz) (fun z1 => ?_)
  change Sim l G Y_L_law lim _ _ 973 [some (.inr (.inr 4000)), some (.inr (.inr x1)), some (.inr (.inr x2)), some (.inl x3)] [.inl z1.1] z1.2
  refine s_run (b := [(.aload_n 2, 1), (.aload_n 0, 1), (.iload_n 3, 1), (.iconst 1, 1), (.iadd, 1)]) 978 [some (.inr (.inr 4000)), some (.inr (.inr x1)), some (.inr (.inr x2)), some (.inl x3)] [.inl (x3 + (1 : Int32)), .inr (.inr 4000), .inr (.inr x2), .inl z1.1] (by decide +kernel) rfl ?_
  refine s_sc (by decide +kernel) (fun v2 => ?_)
  refine s_run (b := [(.aload_n 0, 1), (.iload_n 3, 1), (.iconst 2, 1), (.iadd, 1)]) 983 [some (.inr (.inr 4000)), some (.inr (.inr x1)), some (.inr (.inr x2)), some (.inl x3)] [.inl (x3 + (2 : Int32)), .inr (.inr 4000), .inl v2, .inr (.inr x2), .inl z1.1] (by decide +kernel) rfl ?_
  refine s_sc (by decide +kernel) (fun v3 => ?_)
  refine s_run (b := [(.aload_n 0, 1), (.iload_n 3, 1), (.iconst 3, 1), (.iadd, 1)]) 988 [some (.inr (.inr 4000)), some (.inr (.inr x1)), some (.inr (.inr x2)), some (.inl x3)] [.inl (x3 + (3 : Int32)), .inr (.inr 4000), .inl v3, .inl v2, .inr (.inr x2), .inl z1.1] (by decide +kernel) rfl ?_
  refine s_sc (by decide +kernel) (fun v4 => ?_)
  refine s_if_eq (tgt := 996) (off := 7) (by decide +kernel) (by decide) (fun h5 => ?_) (fun h5 => ?_)
  · skip
    refine s_run (b := [(.iconst 0, 1)]) 997 [some (.inr (.inr 4000)), some (.inr (.inr x1)), some (.inr (.inr x2)), some (.inl x3)] [.inl (0 : Int32), .inl v3, .inl v2, .inr (.inr x2), .inl z1.1] (by decide +kernel) rfl ?_
    exact s_lsub (ls' := [some (.inr (.inr 4000)), some (.inr (.inr x1)), some (.inr (.inr x2)), some (.inl x3)]) ⟨rfl, ⟨rfl, ⟨rfl, ⟨rfl, trivial⟩⟩⟩⟩ (J_L_law_997 z1.2 x1 x2 x3 z1.1 x2 v2 v3 (0 : Int32) K kk1 kk2_0)
  · skip
    refine s_run (b := [(.iconst 1, 1), (.goto 4, 3)]) 997 [some (.inr (.inr 4000)), some (.inr (.inr x1)), some (.inr (.inr x2)), some (.inl x3)] [.inl (1 : Int32), .inl v3, .inl v2, .inr (.inr x2), .inl z1.1] (by decide +kernel) rfl ?_
    exact s_lsub (ls' := [some (.inr (.inr 4000)), some (.inr (.inr x1)), some (.inr (.inr x2)), some (.inl x3)]) ⟨rfl, ⟨rfl, ⟨rfl, ⟨rfl, trivial⟩⟩⟩⟩ (J_L_law_997 z1.2 x1 x2 x3 z1.1 x2 v2 v3 (1 : Int32) K kk1 kk2_0)
def f_L_law_J946 (lim : Nat × Nat) (X : List Int32) (M : Mem) (x1 : Nat) (x2 : Nat) (x3 : Int32)  : Option ((Int32 × Mem) ⊕ ((Mem))) :=
  (scI X (x3 + (1 : Int32))).bind fun v1 =>
  (scI X (x3 + (2 : Int32))).bind fun v2 =>
  (scI X (x3 + (3 : Int32))).bind fun v3 =>
  (if v3 = 0 then
    f_L_law_J970 lim X M x1 x2 x3 x1 v1 v2 (0 : Int32)
  else
    f_L_law_J970 lim X M x1 x2 x3 x1 v1 v2 (1 : Int32))
set_option maxHeartbeats 8000000 in
set_option maxRecDepth 20000 in
theorem J_L_law_946 {l : Launch} {G : Gv} {lim : Nat × Nat} (M : Mem) (x1 : Nat) (x2 : Nat) (x3 : Int32)  (K : (Int32 × Mem) ⊕ ((Mem)) → Option (Option Value × Mem)) (kk1 : ∀ (s3 : Int32) (s_ : Mem), SimR l G Y_L_law lim (K (.inl (s3, s_))) 18 [some (.inr (.inr 4000)), some (.inr (.inr x1)), some (.inr (.inr x2)), some (.inl s3)] [] s_) (kk2_0 : ∀ (s_ : Mem), SimR l G Y_L_law lim (K (.inr s_)) 1851 [none, none, none, none] [] s_) : Sim l G Y_L_law lim (f_L_law_J946 lim G.2.2.2.2 M x1 x2 x3) K 946 [some (.inr (.inr 4000)), some (.inr (.inr x1)), some (.inr (.inr x2)), some (.inl x3)] [] M := by
  unfold f_L_law_J946
  refine s_run (b := [(.aload_n 1, 1), (.aload_n 0, 1), (.iload_n 3, 1), (.iconst 1, 1), (.iadd, 1)]) 951 [some (.inr (.inr 4000)), some (.inr (.inr x1)), some (.inr (.inr x2)), some (.inl x3)] [.inl (x3 + (1 : Int32)), .inr (.inr 4000), .inr (.inr x1)] (by decide +kernel) rfl ?_
  refine s_sc (by decide +kernel) (fun v1 => ?_)
  refine s_run (b := [(.aload_n 0, 1), (.iload_n 3, 1), (.iconst 2, 1), (.iadd, 1)]) 956 [some (.inr (.inr 4000)), some (.inr (.inr x1)), some (.inr (.inr x2)), some (.inl x3)] [.inl (x3 + (2 : Int32)), .inr (.inr 4000), .inl v1, .inr (.inr x1)] (by decide +kernel) rfl ?_
  refine s_sc (by decide +kernel) (fun v2 => ?_)
  refine s_run (b := [(.aload_n 0, 1), (.iload_n 3, 1), (.iconst 3, 1), (.iadd, 1)]) 961 [some (.inr (.inr 4000)), some (.inr (.inr x1)), some (.inr (.inr x2)), some (.inl x3)] [.inl (x3 + (3 : Int32)), .inr (.inr 4000), .inl v2, .inl v1, .inr (.inr x1)] (by decide +kernel) rfl ?_
  refine s_sc (by decide +kernel) (fun v3 => ?_)
  refine s_if_eq (tgt := 969) (off := 7) (by decide +kernel) (by decide) (fun h4 => ?_) (fun h4 => ?_)
  · skip
    refine s_run (b := [(.iconst 0, 1)]) 970 [some (.inr (.inr 4000)), some (.inr (.inr x1)), some (.inr (.inr x2)), some (.inl x3)] [.inl (0 : Int32), .inl v2, .inl v1, .inr (.inr x1)] (by decide +kernel) rfl ?_
    exact s_lsub (ls' := [some (.inr (.inr 4000)), some (.inr (.inr x1)), some (.inr (.inr x2)), some (.inl x3)]) ⟨rfl, ⟨rfl, ⟨rfl, ⟨rfl, trivial⟩⟩⟩⟩ (J_L_law_970 M x1 x2 x3 x1 v1 v2 (0 : Int32) K kk1 kk2_0)
  · skip
    refine s_run (b := [(.iconst 1, 1), (.goto 4, 3)]) 970 [some (.inr (.inr 4000)), some (.inr (.inr x1)), some (.inr (.inr x2)), some (.inl x3)] [.inl (1 : Int32), .inl v2, .inl v1, .inr (.inr x1)] (by decide +kernel) rfl ?_
    exact s_lsub (ls' := [some (.inr (.inr 4000)), some (.inr (.inr x1)), some (.inr (.inr x2)), some (.inl x3)]) ⟨rfl, ⟨rfl, ⟨rfl, ⟨rfl, trivial⟩⟩⟩⟩ (J_L_law_970 M x1 x2 x3 x1 v1 v2 (1 : Int32) K kk1 kk2_0)
def f_L_law_J1005 (lim : Nat × Nat) (X : List Int32) (M : Mem) (x1 : Nat) (x2 : Nat) (x3 : Int32)  : Option ((Int32 × Mem) ⊕ ((Mem))) :=
  (scI X (x3 + (1 : Int32))).bind fun v1 =>
  (scI X (x3 + (2 : Int32))).bind fun v2 =>
  (scI X (x3 + (3 : Int32))).bind fun v3 =>
  (ob M 11 x1).bind fun _ => (f_X11_rule M x1 v1 v2 v3).bind fun z4 =>
  (scI X (x3 + (1 : Int32))).bind fun v5 =>
  (scI X (x3 + (2 : Int32))).bind fun v6 =>
  (scI X (x3 + (3 : Int32))).bind fun v7 =>
  (ob z4.2 12 x2).bind fun _ => (f_X12_rule z4.2 x2 v5 v6 v7).bind fun z8 =>
  (if z4.1 = z8.1 then
    some (.inl ((x3 + (6 : Int32)), z8.2))
  else
    none)
set_option maxHeartbeats 8000000 in
set_option maxRecDepth 20000 in
theorem J_L_law_1005 {l : Launch} {G : Gv} {lim : Nat × Nat} (M : Mem) (x1 : Nat) (x2 : Nat) (x3 : Int32)  (K : (Int32 × Mem) ⊕ ((Mem)) → Option (Option Value × Mem)) (kk1 : ∀ (s3 : Int32) (s_ : Mem), SimR l G Y_L_law lim (K (.inl (s3, s_))) 18 [some (.inr (.inr 4000)), some (.inr (.inr x1)), some (.inr (.inr x2)), some (.inl s3)] [] s_) (kk2_0 : ∀ (s_ : Mem), SimR l G Y_L_law lim (K (.inr s_)) 1851 [none, none, none, none] [] s_) : Sim l G Y_L_law lim (f_L_law_J1005 lim G.2.2.2.2 M x1 x2 x3) K 1005 [some (.inr (.inr 4000)), some (.inr (.inr x1)), some (.inr (.inr x2)), some (.inl x3)] [] M := by
  unfold f_L_law_J1005
  refine s_run (b := [(.aload_n 1, 1), (.aload_n 0, 1), (.iload_n 3, 1), (.iconst 1, 1), (.iadd, 1)]) 1010 [some (.inr (.inr 4000)), some (.inr (.inr x1)), some (.inr (.inr x2)), some (.inl x3)] [.inl (x3 + (1 : Int32)), .inr (.inr 4000), .inr (.inr x1)] (by decide +kernel) rfl ?_
  refine s_sc (by decide +kernel) (fun v1 => ?_)
  refine s_run (b := [(.aload_n 0, 1), (.iload_n 3, 1), (.iconst 2, 1), (.iadd, 1)]) 1015 [some (.inr (.inr 4000)), some (.inr (.inr x1)), some (.inr (.inr x2)), some (.inl x3)] [.inl (x3 + (2 : Int32)), .inr (.inr 4000), .inl v1, .inr (.inr x1)] (by decide +kernel) rfl ?_
  refine s_sc (by decide +kernel) (fun v2 => ?_)
  refine s_run (b := [(.aload_n 0, 1), (.iload_n 3, 1), (.iconst 3, 1), (.iadd, 1)]) 1020 [some (.inr (.inr 4000)), some (.inr (.inr x1)), some (.inr (.inr x2)), some (.inl x3)] [.inl (x3 + (3 : Int32)), .inr (.inr 4000), .inl v2, .inl v1, .inr (.inr x1)] (by decide +kernel) rfl ?_
  refine s_sc (by decide +kernel) (fun v3 => ?_)
  refine s_cV (Z := Y_X11_rule) (c := 11) (vs := [.inl v1, .inl v2, .inl v3]) (st := []) (rO := fun z => some (.inl z.1)) (mO := fun z => z.2) zk_X11_rule zi_X11_rule q1066 rfl ⟨by decide, by decide⟩ ⟨rfl, rfl⟩ rfl rfl (Nat.le_of_ble_eq_true rfl) (by decide +kernel) (fun z hz => c_X11_rule hz) (fun z4 => ?_)
  change Sim l G Y_L_law lim _ _ 1024 [some (.inr (.inr 4000)), some (.inr (.inr x1)), some (.inr (.inr x2)), some (.inl x3)] [.inl z4.1] z4.2
  refine s_run (b := [(.aload_n 2, 1), (.aload_n 0, 1), (.iload_n 3, 1), (.iconst 1, 1), (.iadd, 1)]) 1029 [some (.inr (.inr 4000)), some (.inr (.inr x1)), some (.inr (.inr x2)), some (.inl x3)] [.inl (x3 + (1 : Int32)), .inr (.inr 4000), .inr (.inr x2), .inl z4.1] (by decide +kernel) rfl ?_
  refine s_sc (by decide +kernel) (fun v5 => ?_)
  refine s_run (b := [(.aload_n 0, 1), (.iload_n 3, 1), (.iconst 2, 1), (.iadd, 1)]) 1034 [some (.inr (.inr 4000)), some (.inr (.inr x1)), some (.inr (.inr x2)), some (.inl x3)] [.inl (x3 + (2 : Int32)), .inr (.inr 4000), .inl v5, .inr (.inr x2), .inl z4.1] (by decide +kernel) rfl ?_
  refine s_sc (by decide +kernel) (fun v6 => ?_)
  refine s_run (b := [(.aload_n 0, 1), (.iload_n 3, 1), (.iconst 3, 1), (.iadd, 1)]) 1039 [some (.inr (.inr 4000)), some (.inr (.inr x1)), some (.inr (.inr x2)), some (.inl x3)] [.inl (x3 + (3 : Int32)), .inr (.inr 4000), .inl v6, .inl v5, .inr (.inr x2), .inl z4.1] (by decide +kernel) rfl ?_
  refine s_sc (by decide +kernel) (fun v7 => ?_)
  refine s_cV (Z := Y_X12_rule) (c := 12) (vs := [.inl v5, .inl v6, .inl v7]) (st := [.inl z4.1]) (rO := fun z => some (.inl z.1)) (mO := fun z => z.2) zk_X12_rule zi_X12_rule q1779 rfl ⟨by decide, by decide⟩ ⟨rfl, rfl⟩ rfl rfl (Nat.le_of_ble_eq_true rfl) (by decide +kernel) (fun z hz => c_X12_rule hz) (fun z8 => ?_)
  change Sim l G Y_L_law lim _ _ 1043 [some (.inr (.inr 4000)), some (.inr (.inr x1)), some (.inr (.inr x2)), some (.inl x3)] [.inl z8.1, .inl z4.1] z8.2
  refine s_ic_eq (tgt := 1845) (off := 802) (by decide +kernel) (by decide) (fun h9 => ?_) (fun h9 => ?_)
  · skip
    refine s_run (b := [(.iinc 3 6, 3), (.goto (-1830), 3)]) 18 [some (.inr (.inr 4000)), some (.inr (.inr x1)), some (.inr (.inr x2)), some (.inl (x3 + (6 : Int32)))] [] (by decide +kernel) rfl ?_
    exact s_lsub (ls' := [some (.inr (.inr 4000)), some (.inr (.inr x1)), some (.inr (.inr x2)), some (.inl (x3 + (6 : Int32)))]) ⟨rfl, ⟨rfl, ⟨rfl, ⟨rfl, trivial⟩⟩⟩⟩ (kk1 (x3 + (6 : Int32)) z8.2)
  · skip
    exact s_none
def f_L_law_J1089 (lim : Nat × Nat) (X : List Int32) (M : Mem) (x1 : Nat) (x2 : Nat) (x3 : Int32) (y0 : Int32) (y1 : Nat) (y2 : Int32) (y3 : Int32) : Option ((Int32 × Mem) ⊕ ((Mem))) :=
  (ob M 12 y1).bind fun _ => (f_X12_board M y1 y2 y3).bind fun z1 =>
  (if y0 = z1.1 then
    some (.inl ((x3 + (6 : Int32)), z1.2))
  else
    none)
set_option maxHeartbeats 8000000 in
set_option maxRecDepth 20000 in
theorem J_L_law_1089 {l : Launch} {G : Gv} {lim : Nat × Nat} (M : Mem) (x1 : Nat) (x2 : Nat) (x3 : Int32) (y0 : Int32) (y1 : Nat) (y2 : Int32) (y3 : Int32) (K : (Int32 × Mem) ⊕ ((Mem)) → Option (Option Value × Mem)) (kk1 : ∀ (s3 : Int32) (s_ : Mem), SimR l G Y_L_law lim (K (.inl (s3, s_))) 18 [some (.inr (.inr 4000)), some (.inr (.inr x1)), some (.inr (.inr x2)), some (.inl s3)] [] s_) (kk2_0 : ∀ (s_ : Mem), SimR l G Y_L_law lim (K (.inr s_)) 1851 [none, none, none, none] [] s_) : Sim l G Y_L_law lim (f_L_law_J1089 lim G.2.2.2.2 M x1 x2 x3 y0 y1 y2 y3) K 1089 [some (.inr (.inr 4000)), some (.inr (.inr x1)), some (.inr (.inr x2)), some (.inl x3)] [.inl y3, .inl y2, .inr (.inr y1), .inl y0] M := by
  unfold f_L_law_J1089
  refine s_cV (Z := Y_X12_board) (c := 12) (vs := [.inl y2, .inl y3]) (st := [.inl y0]) (rO := fun z => some (.inl z.1)) (mO := fun z => z.2) zk_X12_board zi_X12_board q1819 rfl ⟨by decide, by decide⟩ ⟨rfl, rfl⟩ rfl rfl (Nat.le_of_ble_eq_true rfl) (by decide +kernel) (fun z hz => c_X12_board hz) (fun z1 => ?_)
  change Sim l G Y_L_law lim _ _ 1092 [some (.inr (.inr 4000)), some (.inr (.inr x1)), some (.inr (.inr x2)), some (.inl x3)] [.inl z1.1, .inl y0] z1.2
  refine s_ic_eq (tgt := 1845) (off := 753) (by decide +kernel) (by decide) (fun h2 => ?_) (fun h2 => ?_)
  · skip
    refine s_run (b := [(.iinc 3 6, 3), (.goto (-1830), 3)]) 18 [some (.inr (.inr 4000)), some (.inr (.inr x1)), some (.inr (.inr x2)), some (.inl (x3 + (6 : Int32)))] [] (by decide +kernel) rfl ?_
    exact s_lsub (ls' := [some (.inr (.inr 4000)), some (.inr (.inr x1)), some (.inr (.inr x2)), some (.inl (x3 + (6 : Int32)))]) ⟨rfl, ⟨rfl, ⟨rfl, ⟨rfl, trivial⟩⟩⟩⟩ (kk1 (x3 + (6 : Int32)) z1.2)
  · skip
    exact s_none
def f_L_law_J1067 (lim : Nat × Nat) (X : List Int32) (M : Mem) (x1 : Nat) (x2 : Nat) (x3 : Int32) (y0 : Nat) (y1 : Int32) (y2 : Int32) : Option ((Int32 × Mem) ⊕ ((Mem))) :=
  (ob M 11 y0).bind fun _ => (f_X11_board M y0 y1 y2).bind fun v1 =>
  (scI X (x3 + (1 : Int32))).bind fun v2 =>
  (scI X (x3 + (2 : Int32))).bind fun v3 =>
  (if v3 = 0 then
    f_L_law_J1089 lim X M x1 x2 x3 v1 x2 v2 (0 : Int32)
  else
    f_L_law_J1089 lim X M x1 x2 x3 v1 x2 v2 (1 : Int32))
set_option maxHeartbeats 8000000 in
set_option maxRecDepth 20000 in
theorem J_L_law_1067 {l : Launch} {G : Gv} {lim : Nat × Nat} (M : Mem) (x1 : Nat) (x2 : Nat) (x3 : Int32) (y0 : Nat) (y1 : Int32) (y2 : Int32) (K : (Int32 × Mem) ⊕ ((Mem)) → Option (Option Value × Mem)) (kk1 : ∀ (s3 : Int32) (s_ : Mem), SimR l G Y_L_law lim (K (.inl (s3, s_))) 18 [some (.inr (.inr 4000)), some (.inr (.inr x1)), some (.inr (.inr x2)), some (.inl s3)] [] s_) (kk2_0 : ∀ (s_ : Mem), SimR l G Y_L_law lim (K (.inr s_)) 1851 [none, none, none, none] [] s_) : Sim l G Y_L_law lim (f_L_law_J1067 lim G.2.2.2.2 M x1 x2 x3 y0 y1 y2) K 1067 [some (.inr (.inr 4000)), some (.inr (.inr x1)), some (.inr (.inr x2)), some (.inl x3)] [.inl y2, .inl y1, .inr (.inr y0)] M := by
  unfold f_L_law_J1067
  refine s_cV (Z := Y_X11_board) (c := 11) (vs := [.inl y1, .inl y2]) (st := []) (rO := fun z => some (.inl z)) (mO := fun _ => M) zk_X11_board zi_X11_board q1094 rfl ⟨by decide, by decide⟩ ⟨rfl, rfl⟩ rfl rfl (Nat.le_of_ble_eq_true rfl) (by decide +kernel) (fun z hz => c_X11_board hz) (fun v1 => ?_)
  change Sim l G Y_L_law lim _ _ 1070 [some (.inr (.inr 4000)), some (.inr (.inr x1)), some (.inr (.inr x2)), some (.inl x3)] [.inl v1] M
  refine s_run (b := [(.aload_n 2, 1), (.aload_n 0, 1), (.iload_n 3, 1), (.iconst 1, 1), (.iadd, 1)]) 1075 [some (.inr (.inr 4000)), some (.inr (.inr x1)), some (.inr (.inr x2)), some (.inl x3)] [.inl (x3 + (1 : Int32)), .inr (.inr 4000), .inr (.inr x2), .inl v1] (by decide +kernel) rfl ?_
  refine s_sc (by decide +kernel) (fun v2 => ?_)
  refine s_run (b := [(.aload_n 0, 1), (.iload_n 3, 1), (.iconst 2, 1), (.iadd, 1)]) 1080 [some (.inr (.inr 4000)), some (.inr (.inr x1)), some (.inr (.inr x2)), some (.inl x3)] [.inl (x3 + (2 : Int32)), .inr (.inr 4000), .inl v2, .inr (.inr x2), .inl v1] (by decide +kernel) rfl ?_
  refine s_sc (by decide +kernel) (fun v3 => ?_)
  refine s_if_eq (tgt := 1088) (off := 7) (by decide +kernel) (by decide) (fun h4 => ?_) (fun h4 => ?_)
  · skip
    refine s_run (b := [(.iconst 0, 1)]) 1089 [some (.inr (.inr 4000)), some (.inr (.inr x1)), some (.inr (.inr x2)), some (.inl x3)] [.inl (0 : Int32), .inl v2, .inr (.inr x2), .inl v1] (by decide +kernel) rfl ?_
    exact s_lsub (ls' := [some (.inr (.inr 4000)), some (.inr (.inr x1)), some (.inr (.inr x2)), some (.inl x3)]) ⟨rfl, ⟨rfl, ⟨rfl, ⟨rfl, trivial⟩⟩⟩⟩ (J_L_law_1089 M x1 x2 x3 v1 x2 v2 (0 : Int32) K kk1 kk2_0)
  · skip
    refine s_run (b := [(.iconst 1, 1), (.goto 4, 3)]) 1089 [some (.inr (.inr 4000)), some (.inr (.inr x1)), some (.inr (.inr x2)), some (.inl x3)] [.inl (1 : Int32), .inl v2, .inr (.inr x2), .inl v1] (by decide +kernel) rfl ?_
    exact s_lsub (ls' := [some (.inr (.inr 4000)), some (.inr (.inr x1)), some (.inr (.inr x2)), some (.inl x3)]) ⟨rfl, ⟨rfl, ⟨rfl, ⟨rfl, trivial⟩⟩⟩⟩ (J_L_law_1089 M x1 x2 x3 v1 x2 v2 (1 : Int32) K kk1 kk2_0)
def f_L_law_J1048 (lim : Nat × Nat) (X : List Int32) (M : Mem) (x1 : Nat) (x2 : Nat) (x3 : Int32)  : Option ((Int32 × Mem) ⊕ ((Mem))) :=
  (scI X (x3 + (1 : Int32))).bind fun v1 =>
  (scI X (x3 + (2 : Int32))).bind fun v2 =>
  (if v2 = 0 then
    f_L_law_J1067 lim X M x1 x2 x3 x1 v1 (0 : Int32)
  else
    f_L_law_J1067 lim X M x1 x2 x3 x1 v1 (1 : Int32))
set_option maxHeartbeats 8000000 in
set_option maxRecDepth 20000 in
theorem J_L_law_1048 {l : Launch} {G : Gv} {lim : Nat × Nat} (M : Mem) (x1 : Nat) (x2 : Nat) (x3 : Int32)  (K : (Int32 × Mem) ⊕ ((Mem)) → Option (Option Value × Mem)) (kk1 : ∀ (s3 : Int32) (s_ : Mem), SimR l G Y_L_law lim (K (.inl (s3, s_))) 18 [some (.inr (.inr 4000)), some (.inr (.inr x1)), some (.inr (.inr x2)), some (.inl s3)] [] s_) (kk2_0 : ∀ (s_ : Mem), SimR l G Y_L_law lim (K (.inr s_)) 1851 [none, none, none, none] [] s_) : Sim l G Y_L_law lim (f_L_law_J1048 lim G.2.2.2.2 M x1 x2 x3) K 1048 [some (.inr (.inr 4000)), some (.inr (.inr x1)), some (.inr (.inr x2)), some (.inl x3)] [] M := by
  unfold f_L_law_J1048
  refine s_run (b := [(.aload_n 1, 1), (.aload_n 0, 1), (.iload_n 3, 1), (.iconst 1, 1), (.iadd, 1)]) 1053 [some (.inr (.inr 4000)), some (.inr (.inr x1)), some (.inr (.inr x2)), some (.inl x3)] [.inl (x3 + (1 : Int32)), .inr (.inr 4000), .inr (.inr x1)] (by decide +kernel) rfl ?_
  refine s_sc (by decide +kernel) (fun v1 => ?_)
  refine s_run (b := [(.aload_n 0, 1), (.iload_n 3, 1), (.iconst 2, 1), (.iadd, 1)]) 1058 [some (.inr (.inr 4000)), some (.inr (.inr x1)), some (.inr (.inr x2)), some (.inl x3)] [.inl (x3 + (2 : Int32)), .inr (.inr 4000), .inl v1, .inr (.inr x1)] (by decide +kernel) rfl ?_
  refine s_sc (by decide +kernel) (fun v2 => ?_)
  refine s_if_eq (tgt := 1066) (off := 7) (by decide +kernel) (by decide) (fun h3 => ?_) (fun h3 => ?_)
  · skip
    refine s_run (b := [(.iconst 0, 1)]) 1067 [some (.inr (.inr 4000)), some (.inr (.inr x1)), some (.inr (.inr x2)), some (.inl x3)] [.inl (0 : Int32), .inl v1, .inr (.inr x1)] (by decide +kernel) rfl ?_
    exact s_lsub (ls' := [some (.inr (.inr 4000)), some (.inr (.inr x1)), some (.inr (.inr x2)), some (.inl x3)]) ⟨rfl, ⟨rfl, ⟨rfl, ⟨rfl, trivial⟩⟩⟩⟩ (J_L_law_1067 M x1 x2 x3 x1 v1 (0 : Int32) K kk1 kk2_0)
  · skip
    refine s_run (b := [(.iconst 1, 1), (.goto 4, 3)]) 1067 [some (.inr (.inr 4000)), some (.inr (.inr x1)), some (.inr (.inr x2)), some (.inl x3)] [.inl (1 : Int32), .inl v1, .inr (.inr x1)] (by decide +kernel) rfl ?_
    exact s_lsub (ls' := [some (.inr (.inr 4000)), some (.inr (.inr x1)), some (.inr (.inr x2)), some (.inl x3)]) ⟨rfl, ⟨rfl, ⟨rfl, ⟨rfl, trivial⟩⟩⟩⟩ (J_L_law_1067 M x1 x2 x3 x1 v1 (1 : Int32) K kk1 kk2_0)
def f_L_law_J1138 (lim : Nat × Nat) (X : List Int32) (M : Mem) (x1 : Nat) (x2 : Nat) (x3 : Int32) (y0 : Int32) (y1 : Nat) (y2 : Int32) (y3 : Int32) : Option ((Int32 × Mem) ⊕ ((Mem))) :=
  (ob M 12 y1).bind fun _ => (f_X12_rooms M y1 y2 y3).bind fun z1 =>
  (if y0 = z1.1 then
    some (.inl ((x3 + (6 : Int32)), z1.2))
  else
    none)
set_option maxHeartbeats 8000000 in
set_option maxRecDepth 20000 in
theorem J_L_law_1138 {l : Launch} {G : Gv} {lim : Nat × Nat} (M : Mem) (x1 : Nat) (x2 : Nat) (x3 : Int32) (y0 : Int32) (y1 : Nat) (y2 : Int32) (y3 : Int32) (K : (Int32 × Mem) ⊕ ((Mem)) → Option (Option Value × Mem)) (kk1 : ∀ (s3 : Int32) (s_ : Mem), SimR l G Y_L_law lim (K (.inl (s3, s_))) 18 [some (.inr (.inr 4000)), some (.inr (.inr x1)), some (.inr (.inr x2)), some (.inl s3)] [] s_) (kk2_0 : ∀ (s_ : Mem), SimR l G Y_L_law lim (K (.inr s_)) 1851 [none, none, none, none] [] s_) : Sim l G Y_L_law lim (f_L_law_J1138 lim G.2.2.2.2 M x1 x2 x3 y0 y1 y2 y3) K 1138 [some (.inr (.inr 4000)), some (.inr (.inr x1)), some (.inr (.inr x2)), some (.inl x3)] [.inl y3, .inl y2, .inr (.inr y1), .inl y0] M := by
  unfold f_L_law_J1138
  refine s_cV (Z := Y_X12_rooms) (c := 12) (vs := [.inl y2, .inl y3]) (st := [.inl y0]) (rO := fun z => some (.inl z.1)) (mO := fun z => z.2) zk_X12_rooms zi_X12_rooms q1830 rfl ⟨by decide, by decide⟩ ⟨rfl, rfl⟩ rfl rfl (Nat.le_of_ble_eq_true rfl) (by decide +kernel) (fun z hz => c_X12_rooms hz) (fun z1 => ?_)
  change Sim l G Y_L_law lim _ _ 1141 [some (.inr (.inr 4000)), some (.inr (.inr x1)), some (.inr (.inr x2)), some (.inl x3)] [.inl z1.1, .inl y0] z1.2
  refine s_ic_eq (tgt := 1845) (off := 704) (by decide +kernel) (by decide) (fun h2 => ?_) (fun h2 => ?_)
  · skip
    refine s_run (b := [(.iinc 3 6, 3), (.goto (-1830), 3)]) 18 [some (.inr (.inr 4000)), some (.inr (.inr x1)), some (.inr (.inr x2)), some (.inl (x3 + (6 : Int32)))] [] (by decide +kernel) rfl ?_
    exact s_lsub (ls' := [some (.inr (.inr 4000)), some (.inr (.inr x1)), some (.inr (.inr x2)), some (.inl (x3 + (6 : Int32)))]) ⟨rfl, ⟨rfl, ⟨rfl, ⟨rfl, trivial⟩⟩⟩⟩ (kk1 (x3 + (6 : Int32)) z1.2)
  · skip
    exact s_none
def f_L_law_J1116 (lim : Nat × Nat) (X : List Int32) (M : Mem) (x1 : Nat) (x2 : Nat) (x3 : Int32) (y0 : Nat) (y1 : Int32) (y2 : Int32) : Option ((Int32 × Mem) ⊕ ((Mem))) :=
  (ob M 11 y0).bind fun _ => (f_X11_rooms M y0 y1 y2).bind fun v1 =>
  (scI X (x3 + (1 : Int32))).bind fun v2 =>
  (scI X (x3 + (2 : Int32))).bind fun v3 =>
  (if v3 = 0 then
    f_L_law_J1138 lim X M x1 x2 x3 v1 x2 v2 (0 : Int32)
  else
    f_L_law_J1138 lim X M x1 x2 x3 v1 x2 v2 (1 : Int32))
set_option maxHeartbeats 8000000 in
set_option maxRecDepth 20000 in
theorem J_L_law_1116 {l : Launch} {G : Gv} {lim : Nat × Nat} (M : Mem) (x1 : Nat) (x2 : Nat) (x3 : Int32) (y0 : Nat) (y1 : Int32) (y2 : Int32) (K : (Int32 × Mem) ⊕ ((Mem)) → Option (Option Value × Mem)) (kk1 : ∀ (s3 : Int32) (s_ : Mem), SimR l G Y_L_law lim (K (.inl (s3, s_))) 18 [some (.inr (.inr 4000)), some (.inr (.inr x1)), some (.inr (.inr x2)), some (.inl s3)] [] s_) (kk2_0 : ∀ (s_ : Mem), SimR l G Y_L_law lim (K (.inr s_)) 1851 [none, none, none, none] [] s_) : Sim l G Y_L_law lim (f_L_law_J1116 lim G.2.2.2.2 M x1 x2 x3 y0 y1 y2) K 1116 [some (.inr (.inr 4000)), some (.inr (.inr x1)), some (.inr (.inr x2)), some (.inl x3)] [.inl y2, .inl y1, .inr (.inr y0)] M := by
  unfold f_L_law_J1116
  refine s_cV (Z := Y_X11_rooms) (c := 11) (vs := [.inl y1, .inl y2]) (st := []) (rO := fun z => some (.inl z)) (mO := fun _ => M) zk_X11_rooms zi_X11_rooms q1107 rfl ⟨by decide, by decide⟩ ⟨rfl, rfl⟩ rfl rfl (Nat.le_of_ble_eq_true rfl) (by decide +kernel) (fun z hz => c_X11_rooms hz) (fun v1 => ?_)
  change Sim l G Y_L_law lim _ _ 1119 [some (.inr (.inr 4000)), some (.inr (.inr x1)), some (.inr (.inr x2)), some (.inl x3)] [.inl v1] M
  refine s_run (b := [(.aload_n 2, 1), (.aload_n 0, 1), (.iload_n 3, 1), (.iconst 1, 1), (.iadd, 1)]) 1124 [some (.inr (.inr 4000)), some (.inr (.inr x1)), some (.inr (.inr x2)), some (.inl x3)] [.inl (x3 + (1 : Int32)), .inr (.inr 4000), .inr (.inr x2), .inl v1] (by decide +kernel) rfl ?_
  refine s_sc (by decide +kernel) (fun v2 => ?_)
  refine s_run (b := [(.aload_n 0, 1), (.iload_n 3, 1), (.iconst 2, 1), (.iadd, 1)]) 1129 [some (.inr (.inr 4000)), some (.inr (.inr x1)), some (.inr (.inr x2)), some (.inl x3)] [.inl (x3 + (2 : Int32)), .inr (.inr 4000), .inl v2, .inr (.inr x2), .inl v1] (by decide +kernel) rfl ?_
  refine s_sc (by decide +kernel) (fun v3 => ?_)
  refine s_if_eq (tgt := 1137) (off := 7) (by decide +kernel) (by decide) (fun h4 => ?_) (fun h4 => ?_)
  · skip
    refine s_run (b := [(.iconst 0, 1)]) 1138 [some (.inr (.inr 4000)), some (.inr (.inr x1)), some (.inr (.inr x2)), some (.inl x3)] [.inl (0 : Int32), .inl v2, .inr (.inr x2), .inl v1] (by decide +kernel) rfl ?_
    exact s_lsub (ls' := [some (.inr (.inr 4000)), some (.inr (.inr x1)), some (.inr (.inr x2)), some (.inl x3)]) ⟨rfl, ⟨rfl, ⟨rfl, ⟨rfl, trivial⟩⟩⟩⟩ (J_L_law_1138 M x1 x2 x3 v1 x2 v2 (0 : Int32) K kk1 kk2_0)
  · skip
    refine s_run (b := [(.iconst 1, 1), (.goto 4, 3)]) 1138 [some (.inr (.inr 4000)), some (.inr (.inr x1)), some (.inr (.inr x2)), some (.inl x3)] [.inl (1 : Int32), .inl v2, .inr (.inr x2), .inl v1] (by decide +kernel) rfl ?_
    exact s_lsub (ls' := [some (.inr (.inr 4000)), some (.inr (.inr x1)), some (.inr (.inr x2)), some (.inl x3)]) ⟨rfl, ⟨rfl, ⟨rfl, ⟨rfl, trivial⟩⟩⟩⟩ (J_L_law_1138 M x1 x2 x3 v1 x2 v2 (1 : Int32) K kk1 kk2_0)
def f_L_law_J1097 (lim : Nat × Nat) (X : List Int32) (M : Mem) (x1 : Nat) (x2 : Nat) (x3 : Int32)  : Option ((Int32 × Mem) ⊕ ((Mem))) :=
  (scI X (x3 + (1 : Int32))).bind fun v1 =>
  (scI X (x3 + (2 : Int32))).bind fun v2 =>
  (if v2 = 0 then
    f_L_law_J1116 lim X M x1 x2 x3 x1 v1 (0 : Int32)
  else
    f_L_law_J1116 lim X M x1 x2 x3 x1 v1 (1 : Int32))
set_option maxHeartbeats 8000000 in
set_option maxRecDepth 20000 in
theorem J_L_law_1097 {l : Launch} {G : Gv} {lim : Nat × Nat} (M : Mem) (x1 : Nat) (x2 : Nat) (x3 : Int32)  (K : (Int32 × Mem) ⊕ ((Mem)) → Option (Option Value × Mem)) (kk1 : ∀ (s3 : Int32) (s_ : Mem), SimR l G Y_L_law lim (K (.inl (s3, s_))) 18 [some (.inr (.inr 4000)), some (.inr (.inr x1)), some (.inr (.inr x2)), some (.inl s3)] [] s_) (kk2_0 : ∀ (s_ : Mem), SimR l G Y_L_law lim (K (.inr s_)) 1851 [none, none, none, none] [] s_) : Sim l G Y_L_law lim (f_L_law_J1097 lim G.2.2.2.2 M x1 x2 x3) K 1097 [some (.inr (.inr 4000)), some (.inr (.inr x1)), some (.inr (.inr x2)), some (.inl x3)] [] M := by
  unfold f_L_law_J1097
  refine s_run (b := [(.aload_n 1, 1), (.aload_n 0, 1), (.iload_n 3, 1), (.iconst 1, 1), (.iadd, 1)]) 1102 [some (.inr (.inr 4000)), some (.inr (.inr x1)), some (.inr (.inr x2)), some (.inl x3)] [.inl (x3 + (1 : Int32)), .inr (.inr 4000), .inr (.inr x1)] (by decide +kernel) rfl ?_
  refine s_sc (by decide +kernel) (fun v1 => ?_)
  refine s_run (b := [(.aload_n 0, 1), (.iload_n 3, 1), (.iconst 2, 1), (.iadd, 1)]) 1107 [some (.inr (.inr 4000)), some (.inr (.inr x1)), some (.inr (.inr x2)), some (.inl x3)] [.inl (x3 + (2 : Int32)), .inr (.inr 4000), .inl v1, .inr (.inr x1)] (by decide +kernel) rfl ?_
  refine s_sc (by decide +kernel) (fun v2 => ?_)
  refine s_if_eq (tgt := 1115) (off := 7) (by decide +kernel) (by decide) (fun h3 => ?_) (fun h3 => ?_)
  · skip
    refine s_run (b := [(.iconst 0, 1)]) 1116 [some (.inr (.inr 4000)), some (.inr (.inr x1)), some (.inr (.inr x2)), some (.inl x3)] [.inl (0 : Int32), .inl v1, .inr (.inr x1)] (by decide +kernel) rfl ?_
    exact s_lsub (ls' := [some (.inr (.inr 4000)), some (.inr (.inr x1)), some (.inr (.inr x2)), some (.inl x3)]) ⟨rfl, ⟨rfl, ⟨rfl, ⟨rfl, trivial⟩⟩⟩⟩ (J_L_law_1116 M x1 x2 x3 x1 v1 (0 : Int32) K kk1 kk2_0)
  · skip
    refine s_run (b := [(.iconst 1, 1), (.goto 4, 3)]) 1116 [some (.inr (.inr 4000)), some (.inr (.inr x1)), some (.inr (.inr x2)), some (.inl x3)] [.inl (1 : Int32), .inl v1, .inr (.inr x1)] (by decide +kernel) rfl ?_
    exact s_lsub (ls' := [some (.inr (.inr 4000)), some (.inr (.inr x1)), some (.inr (.inr x2)), some (.inl x3)]) ⟨rfl, ⟨rfl, ⟨rfl, ⟨rfl, trivial⟩⟩⟩⟩ (J_L_law_1116 M x1 x2 x3 x1 v1 (1 : Int32) K kk1 kk2_0)
def f_L_law_J1197 (lim : Nat × Nat) (X : List Int32) (M : Mem) (x1 : Nat) (x2 : Nat) (x3 : Int32) (y0 : Int32) (y1 : Nat) (y2 : Int32) (y3 : Int32) (y4 : Int32) : Option ((Int32 × Mem) ⊕ ((Mem))) :=
  (ob M 12 y1).bind fun _ => (f_X12_seat M y1 y2 y3 y4).bind fun z1 =>
  (if y0 = z1.1 then
    some (.inl ((x3 + (6 : Int32)), z1.2))
  else
    none)
set_option maxHeartbeats 8000000 in
set_option maxRecDepth 20000 in
theorem J_L_law_1197 {l : Launch} {G : Gv} {lim : Nat × Nat} (M : Mem) (x1 : Nat) (x2 : Nat) (x3 : Int32) (y0 : Int32) (y1 : Nat) (y2 : Int32) (y3 : Int32) (y4 : Int32) (K : (Int32 × Mem) ⊕ ((Mem)) → Option (Option Value × Mem)) (kk1 : ∀ (s3 : Int32) (s_ : Mem), SimR l G Y_L_law lim (K (.inl (s3, s_))) 18 [some (.inr (.inr 4000)), some (.inr (.inr x1)), some (.inr (.inr x2)), some (.inl s3)] [] s_) (kk2_0 : ∀ (s_ : Mem), SimR l G Y_L_law lim (K (.inr s_)) 1851 [none, none, none, none] [] s_) : Sim l G Y_L_law lim (f_L_law_J1197 lim G.2.2.2.2 M x1 x2 x3 y0 y1 y2 y3 y4) K 1197 [some (.inr (.inr 4000)), some (.inr (.inr x1)), some (.inr (.inr x2)), some (.inl x3)] [.inl y4, .inl y3, .inl y2, .inr (.inr y1), .inl y0] M := by
  unfold f_L_law_J1197
  refine s_cV (Z := Y_X12_seat) (c := 12) (vs := [.inl y2, .inl y3, .inl y4]) (st := [.inl y0]) (rO := fun z => some (.inl z.1)) (mO := fun z => z.2) zk_X12_seat zi_X12_seat q1838 rfl ⟨by decide, by decide⟩ ⟨rfl, rfl⟩ rfl rfl (Nat.le_of_ble_eq_true rfl) (by decide +kernel) (fun z hz => c_X12_seat hz) (fun z1 => ?_)
  change Sim l G Y_L_law lim _ _ 1200 [some (.inr (.inr 4000)), some (.inr (.inr x1)), some (.inr (.inr x2)), some (.inl x3)] [.inl z1.1, .inl y0] z1.2
  refine s_ic_eq (tgt := 1845) (off := 645) (by decide +kernel) (by decide) (fun h2 => ?_) (fun h2 => ?_)
  · skip
    refine s_run (b := [(.iinc 3 6, 3), (.goto (-1830), 3)]) 18 [some (.inr (.inr 4000)), some (.inr (.inr x1)), some (.inr (.inr x2)), some (.inl (x3 + (6 : Int32)))] [] (by decide +kernel) rfl ?_
    exact s_lsub (ls' := [some (.inr (.inr 4000)), some (.inr (.inr x1)), some (.inr (.inr x2)), some (.inl (x3 + (6 : Int32)))]) ⟨rfl, ⟨rfl, ⟨rfl, ⟨rfl, trivial⟩⟩⟩⟩ (kk1 (x3 + (6 : Int32)) z1.2)
  · skip
    exact s_none
def f_L_law_J1170 (lim : Nat × Nat) (X : List Int32) (M : Mem) (x1 : Nat) (x2 : Nat) (x3 : Int32) (y0 : Nat) (y1 : Int32) (y2 : Int32) (y3 : Int32) : Option ((Int32 × Mem) ⊕ ((Mem))) :=
  (ob M 11 y0).bind fun _ => (f_X11_seat M y0 y1 y2 y3).bind fun v1 =>
  (scI X (x3 + (1 : Int32))).bind fun v2 =>
  (scI X (x3 + (2 : Int32))).bind fun v3 =>
  (scI X (x3 + (3 : Int32))).bind fun v4 =>
  (if v4 = 0 then
    f_L_law_J1197 lim X M x1 x2 x3 v1 x2 v2 v3 (0 : Int32)
  else
    f_L_law_J1197 lim X M x1 x2 x3 v1 x2 v2 v3 (1 : Int32))
set_option maxHeartbeats 8000000 in
set_option maxRecDepth 20000 in
theorem J_L_law_1170 {l : Launch} {G : Gv} {lim : Nat × Nat} (M : Mem) (x1 : Nat) (x2 : Nat) (x3 : Int32) (y0 : Nat) (y1 : Int32) (y2 : Int32) (y3 : Int32) (K : (Int32 × Mem) ⊕ ((Mem)) → Option (Option Value × Mem)) (kk1 : ∀ (s3 : Int32) (s_ : Mem), SimR l G Y_L_law lim (K (.inl (s3, s_))) 18 [some (.inr (.inr 4000)), some (.inr (.inr x1)), some (.inr (.inr x2)), some (.inl s3)] [] s_) (kk2_0 : ∀ (s_ : Mem), SimR l G Y_L_law lim (K (.inr s_)) 1851 [none, none, none, none] [] s_) : Sim l G Y_L_law lim (f_L_law_J1170 lim G.2.2.2.2 M x1 x2 x3 y0 y1 y2 y3) K 1170 [some (.inr (.inr 4000)), some (.inr (.inr x1)), some (.inr (.inr x2)), some (.inl x3)] [.inl y3, .inl y2, .inl y1, .inr (.inr y0)] M := by
  unfold f_L_law_J1170
  refine s_cV (Z := Y_X11_seat) (c := 11) (vs := [.inl y1, .inl y2, .inl y3]) (st := []) (rO := fun z => some (.inl z)) (mO := fun _ => M) zk_X11_seat zi_X11_seat q1128 rfl ⟨by decide, by decide⟩ ⟨rfl, rfl⟩ rfl rfl (Nat.le_of_ble_eq_true rfl) (by decide +kernel) (fun z hz => c_X11_seat hz) (fun v1 => ?_)
  change Sim l G Y_L_law lim _ _ 1173 [some (.inr (.inr 4000)), some (.inr (.inr x1)), some (.inr (.inr x2)), some (.inl x3)] [.inl v1] M
  refine s_run (b := [(.aload_n 2, 1), (.aload_n 0, 1), (.iload_n 3, 1), (.iconst 1, 1), (.iadd, 1)]) 1178 [some (.inr (.inr 4000)), some (.inr (.inr x1)), some (.inr (.inr x2)), some (.inl x3)] [.inl (x3 + (1 : Int32)), .inr (.inr 4000), .inr (.inr x2), .inl v1] (by decide +kernel) rfl ?_
  refine s_sc (by decide +kernel) (fun v2 => ?_)
  refine s_run (b := [(.aload_n 0, 1), (.iload_n 3, 1), (.iconst 2, 1), (.iadd, 1)]) 1183 [some (.inr (.inr 4000)), some (.inr (.inr x1)), some (.inr (.inr x2)), some (.inl x3)] [.inl (x3 + (2 : Int32)), .inr (.inr 4000), .inl v2, .inr (.inr x2), .inl v1] (by decide +kernel) rfl ?_
  refine s_sc (by decide +kernel) (fun v3 => ?_)
  refine s_run (b := [(.aload_n 0, 1), (.iload_n 3, 1), (.iconst 3, 1), (.iadd, 1)]) 1188 [some (.inr (.inr 4000)), some (.inr (.inr x1)), some (.inr (.inr x2)), some (.inl x3)] [.inl (x3 + (3 : Int32)), .inr (.inr 4000), .inl v3, .inl v2, .inr (.inr x2), .inl v1] (by decide +kernel) rfl ?_
  refine s_sc (by decide +kernel) (fun v4 => ?_)
  refine s_if_eq (tgt := 1196) (off := 7) (by decide +kernel) (by decide) (fun h5 => ?_) (fun h5 => ?_)
  · skip
    refine s_run (b := [(.iconst 0, 1)]) 1197 [some (.inr (.inr 4000)), some (.inr (.inr x1)), some (.inr (.inr x2)), some (.inl x3)] [.inl (0 : Int32), .inl v3, .inl v2, .inr (.inr x2), .inl v1] (by decide +kernel) rfl ?_
    exact s_lsub (ls' := [some (.inr (.inr 4000)), some (.inr (.inr x1)), some (.inr (.inr x2)), some (.inl x3)]) ⟨rfl, ⟨rfl, ⟨rfl, ⟨rfl, trivial⟩⟩⟩⟩ (J_L_law_1197 M x1 x2 x3 v1 x2 v2 v3 (0 : Int32) K kk1 kk2_0)
  · skip
    refine s_run (b := [(.iconst 1, 1), (.goto 4, 3)]) 1197 [some (.inr (.inr 4000)), some (.inr (.inr x1)), some (.inr (.inr x2)), some (.inl x3)] [.inl (1 : Int32), .inl v3, .inl v2, .inr (.inr x2), .inl v1] (by decide +kernel) rfl ?_
    exact s_lsub (ls' := [some (.inr (.inr 4000)), some (.inr (.inr x1)), some (.inr (.inr x2)), some (.inl x3)]) ⟨rfl, ⟨rfl, ⟨rfl, ⟨rfl, trivial⟩⟩⟩⟩ (J_L_law_1197 M x1 x2 x3 v1 x2 v2 v3 (1 : Int32) K kk1 kk2_0)
def f_L_law_J1146 (lim : Nat × Nat) (X : List Int32) (M : Mem) (x1 : Nat) (x2 : Nat) (x3 : Int32)  : Option ((Int32 × Mem) ⊕ ((Mem))) :=
  (scI X (x3 + (1 : Int32))).bind fun v1 =>
  (scI X (x3 + (2 : Int32))).bind fun v2 =>
  (scI X (x3 + (3 : Int32))).bind fun v3 =>
  (if v3 = 0 then
    f_L_law_J1170 lim X M x1 x2 x3 x1 v1 v2 (0 : Int32)
  else
    f_L_law_J1170 lim X M x1 x2 x3 x1 v1 v2 (1 : Int32))
set_option maxHeartbeats 8000000 in
set_option maxRecDepth 20000 in
theorem J_L_law_1146 {l : Launch} {G : Gv} {lim : Nat × Nat} (M : Mem) (x1 : Nat) (x2 : Nat) (x3 : Int32)  (K : (Int32 × Mem) ⊕ ((Mem)) → Option (Option Value × Mem)) (kk1 : ∀ (s3 : Int32) (s_ : Mem), SimR l G Y_L_law lim (K (.inl (s3, s_))) 18 [some (.inr (.inr 4000)), some (.inr (.inr x1)), some (.inr (.inr x2)), some (.inl s3)] [] s_) (kk2_0 : ∀ (s_ : Mem), SimR l G Y_L_law lim (K (.inr s_)) 1851 [none, none, none, none] [] s_) : Sim l G Y_L_law lim (f_L_law_J1146 lim G.2.2.2.2 M x1 x2 x3) K 1146 [some (.inr (.inr 4000)), some (.inr (.inr x1)), some (.inr (.inr x2)), some (.inl x3)] [] M := by
  unfold f_L_law_J1146
  refine s_run (b := [(.aload_n 1, 1), (.aload_n 0, 1), (.iload_n 3, 1), (.iconst 1, 1), (.iadd, 1)]) 1151 [some (.inr (.inr 4000)), some (.inr (.inr x1)), some (.inr (.inr x2)), some (.inl x3)] [.inl (x3 + (1 : Int32)), .inr (.inr 4000), .inr (.inr x1)] (by decide +kernel) rfl ?_
  refine s_sc (by decide +kernel) (fun v1 => ?_)
  refine s_run (b := [(.aload_n 0, 1), (.iload_n 3, 1), (.iconst 2, 1), (.iadd, 1)]) 1156 [some (.inr (.inr 4000)), some (.inr (.inr x1)), some (.inr (.inr x2)), some (.inl x3)] [.inl (x3 + (2 : Int32)), .inr (.inr 4000), .inl v1, .inr (.inr x1)] (by decide +kernel) rfl ?_
  refine s_sc (by decide +kernel) (fun v2 => ?_)
  refine s_run (b := [(.aload_n 0, 1), (.iload_n 3, 1), (.iconst 3, 1), (.iadd, 1)]) 1161 [some (.inr (.inr 4000)), some (.inr (.inr x1)), some (.inr (.inr x2)), some (.inl x3)] [.inl (x3 + (3 : Int32)), .inr (.inr 4000), .inl v2, .inl v1, .inr (.inr x1)] (by decide +kernel) rfl ?_
  refine s_sc (by decide +kernel) (fun v3 => ?_)
  refine s_if_eq (tgt := 1169) (off := 7) (by decide +kernel) (by decide) (fun h4 => ?_) (fun h4 => ?_)
  · skip
    refine s_run (b := [(.iconst 0, 1)]) 1170 [some (.inr (.inr 4000)), some (.inr (.inr x1)), some (.inr (.inr x2)), some (.inl x3)] [.inl (0 : Int32), .inl v2, .inl v1, .inr (.inr x1)] (by decide +kernel) rfl ?_
    exact s_lsub (ls' := [some (.inr (.inr 4000)), some (.inr (.inr x1)), some (.inr (.inr x2)), some (.inl x3)]) ⟨rfl, ⟨rfl, ⟨rfl, ⟨rfl, trivial⟩⟩⟩⟩ (J_L_law_1170 M x1 x2 x3 x1 v1 v2 (0 : Int32) K kk1 kk2_0)
  · skip
    refine s_run (b := [(.iconst 1, 1), (.goto 4, 3)]) 1170 [some (.inr (.inr 4000)), some (.inr (.inr x1)), some (.inr (.inr x2)), some (.inl x3)] [.inl (1 : Int32), .inl v2, .inl v1, .inr (.inr x1)] (by decide +kernel) rfl ?_
    exact s_lsub (ls' := [some (.inr (.inr 4000)), some (.inr (.inr x1)), some (.inr (.inr x2)), some (.inl x3)]) ⟨rfl, ⟨rfl, ⟨rfl, ⟨rfl, trivial⟩⟩⟩⟩ (J_L_law_1170 M x1 x2 x3 x1 v1 v2 (1 : Int32) K kk1 kk2_0)
def f_L_law_J1205 (lim : Nat × Nat) (X : List Int32) (M : Mem) (x1 : Nat) (x2 : Nat) (x3 : Int32)  : Option ((Int32 × Mem) ⊕ ((Mem))) :=
  (scI X (x3 + (1 : Int32))).bind fun v1 =>
  (scI X (x3 + (2 : Int32))).bind fun v2 =>
  (ob M 11 x1).bind fun _ => (f_X11_quiet M x1 v1 v2).bind fun v3 =>
  (scI X (x3 + (1 : Int32))).bind fun v4 =>
  (scI X (x3 + (2 : Int32))).bind fun v5 =>
  (ob M 12 x2).bind fun _ => (f_X12_quiet M x2 v4 v5).bind fun z6 =>
  (if v3 = z6.1 then
    some (.inl ((x3 + (6 : Int32)), z6.2))
  else
    none)
set_option maxHeartbeats 8000000 in
set_option maxRecDepth 20000 in
theorem J_L_law_1205 {l : Launch} {G : Gv} {lim : Nat × Nat} (M : Mem) (x1 : Nat) (x2 : Nat) (x3 : Int32)  (K : (Int32 × Mem) ⊕ ((Mem)) → Option (Option Value × Mem)) (kk1 : ∀ (s3 : Int32) (s_ : Mem), SimR l G Y_L_law lim (K (.inl (s3, s_))) 18 [some (.inr (.inr 4000)), some (.inr (.inr x1)), some (.inr (.inr x2)), some (.inl s3)] [] s_) (kk2_0 : ∀ (s_ : Mem), SimR l G Y_L_law lim (K (.inr s_)) 1851 [none, none, none, none] [] s_) : Sim l G Y_L_law lim (f_L_law_J1205 lim G.2.2.2.2 M x1 x2 x3) K 1205 [some (.inr (.inr 4000)), some (.inr (.inr x1)), some (.inr (.inr x2)), some (.inl x3)] [] M := by
  unfold f_L_law_J1205
  refine s_run (b := [(.aload_n 1, 1), (.aload_n 0, 1), (.iload_n 3, 1), (.iconst 1, 1), (.iadd, 1)]) 1210 [some (.inr (.inr 4000)), some (.inr (.inr x1)), some (.inr (.inr x2)), some (.inl x3)] [.inl (x3 + (1 : Int32)), .inr (.inr 4000), .inr (.inr x1)] (by decide +kernel) rfl ?_
  refine s_sc (by decide +kernel) (fun v1 => ?_)
  refine s_run (b := [(.aload_n 0, 1), (.iload_n 3, 1), (.iconst 2, 1), (.iadd, 1)]) 1215 [some (.inr (.inr 4000)), some (.inr (.inr x1)), some (.inr (.inr x2)), some (.inl x3)] [.inl (x3 + (2 : Int32)), .inr (.inr 4000), .inl v1, .inr (.inr x1)] (by decide +kernel) rfl ?_
  refine s_sc (by decide +kernel) (fun v2 => ?_)
  refine s_cV (Z := Y_X11_quiet) (c := 11) (vs := [.inl v1, .inl v2]) (st := []) (rO := fun z => some (.inl z)) (mO := fun _ => M) zk_X11_quiet zi_X11_quiet q1141 rfl ⟨by decide, by decide⟩ ⟨rfl, rfl⟩ rfl rfl (Nat.le_of_ble_eq_true rfl) (by decide +kernel) (fun z hz => c_X11_quiet hz) (fun v3 => ?_)
  change Sim l G Y_L_law lim _ _ 1219 [some (.inr (.inr 4000)), some (.inr (.inr x1)), some (.inr (.inr x2)), some (.inl x3)] [.inl v3] M
  refine s_run (b := [(.aload_n 2, 1), (.aload_n 0, 1), (.iload_n 3, 1), (.iconst 1, 1), (.iadd, 1)]) 1224 [some (.inr (.inr 4000)), some (.inr (.inr x1)), some (.inr (.inr x2)), some (.inl x3)] [.inl (x3 + (1 : Int32)), .inr (.inr 4000), .inr (.inr x2), .inl v3] (by decide +kernel) rfl ?_
  refine s_sc (by decide +kernel) (fun v4 => ?_)
  refine s_run (b := [(.aload_n 0, 1), (.iload_n 3, 1), (.iconst 2, 1), (.iadd, 1)]) 1229 [some (.inr (.inr 4000)), some (.inr (.inr x1)), some (.inr (.inr x2)), some (.inl x3)] [.inl (x3 + (2 : Int32)), .inr (.inr 4000), .inl v4, .inr (.inr x2), .inl v3] (by decide +kernel) rfl ?_
  refine s_sc (by decide +kernel) (fun v5 => ?_)
  refine s_cV (Z := Y_X12_quiet) (c := 12) (vs := [.inl v4, .inl v5]) (st := [.inl v3]) (rO := fun z => some (.inl z.1)) (mO := fun z => z.2) zk_X12_quiet zi_X12_quiet q1846 rfl ⟨by decide, by decide⟩ ⟨rfl, rfl⟩ rfl rfl (Nat.le_of_ble_eq_true rfl) (by decide +kernel) (fun z hz => c_X12_quiet hz) (fun z6 => ?_)
  change Sim l G Y_L_law lim _ _ 1233 [some (.inr (.inr 4000)), some (.inr (.inr x1)), some (.inr (.inr x2)), some (.inl x3)] [.inl z6.1, .inl v3] z6.2
  refine s_ic_eq (tgt := 1845) (off := 612) (by decide +kernel) (by decide) (fun h7 => ?_) (fun h7 => ?_)
  · skip
    refine s_run (b := [(.iinc 3 6, 3), (.goto (-1830), 3)]) 18 [some (.inr (.inr 4000)), some (.inr (.inr x1)), some (.inr (.inr x2)), some (.inl (x3 + (6 : Int32)))] [] (by decide +kernel) rfl ?_
    exact s_lsub (ls' := [some (.inr (.inr 4000)), some (.inr (.inr x1)), some (.inr (.inr x2)), some (.inl (x3 + (6 : Int32)))]) ⟨rfl, ⟨rfl, ⟨rfl, ⟨rfl, trivial⟩⟩⟩⟩ (kk1 (x3 + (6 : Int32)) z6.2)
  · skip
    exact s_none
def f_L_law_J1238 (lim : Nat × Nat) (X : List Int32) (M : Mem) (x1 : Nat) (x2 : Nat) (x3 : Int32)  : Option ((Int32 × Mem) ⊕ ((Mem))) :=
  (scI X (x3 + (1 : Int32))).bind fun v1 =>
  (scI X (x3 + (2 : Int32))).bind fun v2 =>
  (ob M 11 x1).bind fun _ => (f_X11_given M x1 v1 v2).bind fun z3 =>
  (scI X (x3 + (1 : Int32))).bind fun v4 =>
  (scI X (x3 + (2 : Int32))).bind fun v5 =>
  (ob z3.2 12 x2).bind fun _ => (f_X12_given z3.2 x2 v4 v5).bind fun z6 =>
  (if z3.1 = z6.1 then
    some (.inl ((x3 + (6 : Int32)), z6.2))
  else
    none)
set_option maxHeartbeats 8000000 in
set_option maxRecDepth 20000 in
theorem J_L_law_1238 {l : Launch} {G : Gv} {lim : Nat × Nat} (M : Mem) (x1 : Nat) (x2 : Nat) (x3 : Int32)  (K : (Int32 × Mem) ⊕ ((Mem)) → Option (Option Value × Mem)) (kk1 : ∀ (s3 : Int32) (s_ : Mem), SimR l G Y_L_law lim (K (.inl (s3, s_))) 18 [some (.inr (.inr 4000)), some (.inr (.inr x1)), some (.inr (.inr x2)), some (.inl s3)] [] s_) (kk2_0 : ∀ (s_ : Mem), SimR l G Y_L_law lim (K (.inr s_)) 1851 [none, none, none, none] [] s_) : Sim l G Y_L_law lim (f_L_law_J1238 lim G.2.2.2.2 M x1 x2 x3) K 1238 [some (.inr (.inr 4000)), some (.inr (.inr x1)), some (.inr (.inr x2)), some (.inl x3)] [] M := by
  unfold f_L_law_J1238
  refine s_run (b := [(.aload_n 1, 1), (.aload_n 0, 1), (.iload_n 3, 1), (.iconst 1, 1), (.iadd, 1)]) 1243 [some (.inr (.inr 4000)), some (.inr (.inr x1)), some (.inr (.inr x2)), some (.inl x3)] [.inl (x3 + (1 : Int32)), .inr (.inr 4000), .inr (.inr x1)] (by decide +kernel) rfl ?_
  refine s_sc (by decide +kernel) (fun v1 => ?_)
  refine s_run (b := [(.aload_n 0, 1), (.iload_n 3, 1), (.iconst 2, 1), (.iadd, 1)]) 1248 [some (.inr (.inr 4000)), some (.inr (.inr x1)), some (.inr (.inr x2)), some (.inl x3)] [.inl (x3 + (2 : Int32)), .inr (.inr 4000), .inl v1, .inr (.inr x1)] (by decide +kernel) rfl ?_
  refine s_sc (by decide +kernel) (fun v2 => ?_)
  refine s_cV (Z := Y_X11_given) (c := 11) (vs := [.inl v1, .inl v2]) (st := []) (rO := fun z => some (.inl z.1)) (mO := fun z => z.2) zk_X11_given zi_X11_given q1151 rfl ⟨by decide, by decide⟩ ⟨rfl, rfl⟩ rfl rfl (Nat.le_of_ble_eq_true rfl) (by decide +kernel) (fun z hz => c_X11_given hz) (fun z3 => ?_)
  change Sim l G Y_L_law lim _ _ 1252 [some (.inr (.inr 4000)), some (.inr (.inr x1)), some (.inr (.inr x2)), some (.inl x3)] [.inl z3.1] z3.2
  refine s_run (b := [(.aload_n 2, 1), (.aload_n 0, 1), (.iload_n 3, 1), (.iconst 1, 1), (.iadd, 1)]) 1257 [some (.inr (.inr 4000)), some (.inr (.inr x1)), some (.inr (.inr x2)), some (.inl x3)] [.inl (x3 + (1 : Int32)), .inr (.inr 4000), .inr (.inr x2), .inl z3.1] (by decide +kernel) rfl ?_
  refine s_sc (by decide +kernel) (fun v4 => ?_)
  refine s_run (b := [(.aload_n 0, 1), (.iload_n 3, 1), (.iconst 2, 1), (.iadd, 1)]) 1262 [some (.inr (.inr 4000)), some (.inr (.inr x1)), some (.inr (.inr x2)), some (.inl x3)] [.inl (x3 + (2 : Int32)), .inr (.inr 4000), .inl v4, .inr (.inr x2), .inl z3.1] (by decide +kernel) rfl ?_
  refine s_sc (by decide +kernel) (fun v5 => ?_)
  refine s_cV (Z := Y_X12_given) (c := 12) (vs := [.inl v4, .inl v5]) (st := [.inl z3.1]) (rO := fun z => some (.inl z.1)) (mO := fun z => z.2) zk_X12_given zi_X12_given q1850 rfl ⟨by decide, by decide⟩ ⟨rfl, rfl⟩ rfl rfl (Nat.le_of_ble_eq_true rfl) (by decide +kernel) (fun z hz => c_X12_given hz) (fun z6 => ?_)
  change Sim l G Y_L_law lim _ _ 1266 [some (.inr (.inr 4000)), some (.inr (.inr x1)), some (.inr (.inr x2)), some (.inl x3)] [.inl z6.1, .inl z3.1] z6.2
  refine s_ic_eq (tgt := 1845) (off := 579) (by decide +kernel) (by decide) (fun h7 => ?_) (fun h7 => ?_)
  · skip
    refine s_run (b := [(.iinc 3 6, 3), (.goto (-1830), 3)]) 18 [some (.inr (.inr 4000)), some (.inr (.inr x1)), some (.inr (.inr x2)), some (.inl (x3 + (6 : Int32)))] [] (by decide +kernel) rfl ?_
    exact s_lsub (ls' := [some (.inr (.inr 4000)), some (.inr (.inr x1)), some (.inr (.inr x2)), some (.inl (x3 + (6 : Int32)))]) ⟨rfl, ⟨rfl, ⟨rfl, ⟨rfl, trivial⟩⟩⟩⟩ (kk1 (x3 + (6 : Int32)) z6.2)
  · skip
    exact s_none
def f_L_law_J1271 (lim : Nat × Nat) (X : List Int32) (M : Mem) (x1 : Nat) (x2 : Nat) (x3 : Int32)  : Option ((Int32 × Mem) ⊕ ((Mem))) :=
  (scI X (x3 + (1 : Int32))).bind fun v1 =>
  (scI X (x3 + (2 : Int32))).bind fun v2 =>
  (ob M 11 x1).bind fun _ => (f_X11_curve M x1 v1 v2).bind fun v3 =>
  (scI X (x3 + (1 : Int32))).bind fun v4 =>
  (scI X (x3 + (2 : Int32))).bind fun v5 =>
  (ob M 12 x2).bind fun _ => (f_X12_curve M x2 v4 v5).bind fun z6 =>
  (if v3 = z6.1 then
    some (.inl ((x3 + (6 : Int32)), z6.2))
  else
    none)
set_option maxHeartbeats 8000000 in
set_option maxRecDepth 20000 in
theorem J_L_law_1271 {l : Launch} {G : Gv} {lim : Nat × Nat} (M : Mem) (x1 : Nat) (x2 : Nat) (x3 : Int32)  (K : (Int32 × Mem) ⊕ ((Mem)) → Option (Option Value × Mem)) (kk1 : ∀ (s3 : Int32) (s_ : Mem), SimR l G Y_L_law lim (K (.inl (s3, s_))) 18 [some (.inr (.inr 4000)), some (.inr (.inr x1)), some (.inr (.inr x2)), some (.inl s3)] [] s_) (kk2_0 : ∀ (s_ : Mem), SimR l G Y_L_law lim (K (.inr s_)) 1851 [none, none, none, none] [] s_) : Sim l G Y_L_law lim (f_L_law_J1271 lim G.2.2.2.2 M x1 x2 x3) K 1271 [some (.inr (.inr 4000)), some (.inr (.inr x1)), some (.inr (.inr x2)), some (.inl x3)] [] M := by
  unfold f_L_law_J1271
  refine s_run (b := [(.aload_n 1, 1), (.aload_n 0, 1), (.iload_n 3, 1), (.iconst 1, 1), (.iadd, 1)]) 1276 [some (.inr (.inr 4000)), some (.inr (.inr x1)), some (.inr (.inr x2)), some (.inl x3)] [.inl (x3 + (1 : Int32)), .inr (.inr 4000), .inr (.inr x1)] (by decide +kernel) rfl ?_
  refine s_sc (by decide +kernel) (fun v1 => ?_)
  refine s_run (b := [(.aload_n 0, 1), (.iload_n 3, 1), (.iconst 2, 1), (.iadd, 1)]) 1281 [some (.inr (.inr 4000)), some (.inr (.inr x1)), some (.inr (.inr x2)), some (.inl x3)] [.inl (x3 + (2 : Int32)), .inr (.inr 4000), .inl v1, .inr (.inr x1)] (by decide +kernel) rfl ?_
  refine s_sc (by decide +kernel) (fun v2 => ?_)
  refine s_cV (Z := Y_X11_curve) (c := 11) (vs := [.inl v1, .inl v2]) (st := []) (rO := fun z => some (.inl z)) (mO := fun _ => M) zk_X11_curve zi_X11_curve q1175 rfl ⟨by decide, by decide⟩ ⟨rfl, rfl⟩ rfl rfl (Nat.le_of_ble_eq_true rfl) (by decide +kernel) (fun z hz => c_X11_curve hz) (fun v3 => ?_)
  change Sim l G Y_L_law lim _ _ 1285 [some (.inr (.inr 4000)), some (.inr (.inr x1)), some (.inr (.inr x2)), some (.inl x3)] [.inl v3] M
  refine s_run (b := [(.aload_n 2, 1), (.aload_n 0, 1), (.iload_n 3, 1), (.iconst 1, 1), (.iadd, 1)]) 1290 [some (.inr (.inr 4000)), some (.inr (.inr x1)), some (.inr (.inr x2)), some (.inl x3)] [.inl (x3 + (1 : Int32)), .inr (.inr 4000), .inr (.inr x2), .inl v3] (by decide +kernel) rfl ?_
  refine s_sc (by decide +kernel) (fun v4 => ?_)
  refine s_run (b := [(.aload_n 0, 1), (.iload_n 3, 1), (.iconst 2, 1), (.iadd, 1)]) 1295 [some (.inr (.inr 4000)), some (.inr (.inr x1)), some (.inr (.inr x2)), some (.inl x3)] [.inl (x3 + (2 : Int32)), .inr (.inr 4000), .inl v4, .inr (.inr x2), .inl v3] (by decide +kernel) rfl ?_
  refine s_sc (by decide +kernel) (fun v5 => ?_)
  refine s_cV (Z := Y_X12_curve) (c := 12) (vs := [.inl v4, .inl v5]) (st := [.inl v3]) (rO := fun z => some (.inl z.1)) (mO := fun z => z.2) zk_X12_curve zi_X12_curve q1862 rfl ⟨by decide, by decide⟩ ⟨rfl, rfl⟩ rfl rfl (Nat.le_of_ble_eq_true rfl) (by decide +kernel) (fun z hz => c_X12_curve hz) (fun z6 => ?_)
  change Sim l G Y_L_law lim _ _ 1299 [some (.inr (.inr 4000)), some (.inr (.inr x1)), some (.inr (.inr x2)), some (.inl x3)] [.inl z6.1, .inl v3] z6.2
  refine s_ic_eq (tgt := 1845) (off := 546) (by decide +kernel) (by decide) (fun h7 => ?_) (fun h7 => ?_)
  · skip
    refine s_run (b := [(.iinc 3 6, 3), (.goto (-1830), 3)]) 18 [some (.inr (.inr 4000)), some (.inr (.inr x1)), some (.inr (.inr x2)), some (.inl (x3 + (6 : Int32)))] [] (by decide +kernel) rfl ?_
    exact s_lsub (ls' := [some (.inr (.inr 4000)), some (.inr (.inr x1)), some (.inr (.inr x2)), some (.inl (x3 + (6 : Int32)))]) ⟨rfl, ⟨rfl, ⟨rfl, ⟨rfl, trivial⟩⟩⟩⟩ (kk1 (x3 + (6 : Int32)) z6.2)
  · skip
    exact s_none
def f_L_law_J1304 (lim : Nat × Nat) (X : List Int32) (M : Mem) (x1 : Nat) (x2 : Nat) (x3 : Int32)  : Option ((Int32 × Mem) ⊕ ((Mem))) :=
  (scI X (x3 + (1 : Int32))).bind fun v1 =>
  (ob M 11 x1).bind fun _ => (f_X11_ears M x1 v1).bind fun v2 =>
  (scI X (x3 + (1 : Int32))).bind fun v3 =>
  (ob M 12 x2).bind fun _ => (f_X12_ears M x2 v3).bind fun z4 =>
  (if v2 = z4.1 then
    some (.inl ((x3 + (6 : Int32)), z4.2))
  else
    none)
set_option maxHeartbeats 8000000 in
set_option maxRecDepth 20000 in
theorem J_L_law_1304 {l : Launch} {G : Gv} {lim : Nat × Nat} (M : Mem) (x1 : Nat) (x2 : Nat) (x3 : Int32)  (K : (Int32 × Mem) ⊕ ((Mem)) → Option (Option Value × Mem)) (kk1 : ∀ (s3 : Int32) (s_ : Mem), SimR l G Y_L_law lim (K (.inl (s3, s_))) 18 [some (.inr (.inr 4000)), some (.inr (.inr x1)), some (.inr (.inr x2)), some (.inl s3)] [] s_) (kk2_0 : ∀ (s_ : Mem), SimR l G Y_L_law lim (K (.inr s_)) 1851 [none, none, none, none] [] s_) : Sim l G Y_L_law lim (f_L_law_J1304 lim G.2.2.2.2 M x1 x2 x3) K 1304 [some (.inr (.inr 4000)), some (.inr (.inr x1)), some (.inr (.inr x2)), some (.inl x3)] [] M := by
  unfold f_L_law_J1304
  refine s_run (b := [(.aload_n 1, 1), (.aload_n 0, 1), (.iload_n 3, 1), (.iconst 1, 1), (.iadd, 1)]) 1309 [some (.inr (.inr 4000)), some (.inr (.inr x1)), some (.inr (.inr x2)), some (.inl x3)] [.inl (x3 + (1 : Int32)), .inr (.inr 4000), .inr (.inr x1)] (by decide +kernel) rfl ?_
  refine s_sc (by decide +kernel) (fun v1 => ?_)
  refine s_cV (Z := Y_X11_ears) (c := 11) (vs := [.inl v1]) (st := []) (rO := fun z => some (.inl z)) (mO := fun _ => M) zk_X11_ears zi_X11_ears q1180 rfl ⟨by decide, by decide⟩ ⟨rfl, rfl⟩ rfl rfl (Nat.le_of_ble_eq_true rfl) (by decide +kernel) (fun z hz => c_X11_ears hz) (fun v2 => ?_)
  change Sim l G Y_L_law lim _ _ 1313 [some (.inr (.inr 4000)), some (.inr (.inr x1)), some (.inr (.inr x2)), some (.inl x3)] [.inl v2] M
  refine s_run (b := [(.aload_n 2, 1), (.aload_n 0, 1), (.iload_n 3, 1), (.iconst 1, 1), (.iadd, 1)]) 1318 [some (.inr (.inr 4000)), some (.inr (.inr x1)), some (.inr (.inr x2)), some (.inl x3)] [.inl (x3 + (1 : Int32)), .inr (.inr 4000), .inr (.inr x2), .inl v2] (by decide +kernel) rfl ?_
  refine s_sc (by decide +kernel) (fun v3 => ?_)
  refine s_cV (Z := Y_X12_ears) (c := 12) (vs := [.inl v3]) (st := [.inl v2]) (rO := fun z => some (.inl z.1)) (mO := fun z => z.2) zk_X12_ears zi_X12_ears q1866 rfl ⟨by decide, by decide⟩ ⟨rfl, rfl⟩ rfl rfl (Nat.le_of_ble_eq_true rfl) (by decide +kernel) (fun z hz => c_X12_ears hz) (fun z4 => ?_)
  change Sim l G Y_L_law lim _ _ 1322 [some (.inr (.inr 4000)), some (.inr (.inr x1)), some (.inr (.inr x2)), some (.inl x3)] [.inl z4.1, .inl v2] z4.2
  refine s_ic_eq (tgt := 1845) (off := 523) (by decide +kernel) (by decide) (fun h5 => ?_) (fun h5 => ?_)
  · skip
    refine s_run (b := [(.iinc 3 6, 3), (.goto (-1830), 3)]) 18 [some (.inr (.inr 4000)), some (.inr (.inr x1)), some (.inr (.inr x2)), some (.inl (x3 + (6 : Int32)))] [] (by decide +kernel) rfl ?_
    exact s_lsub (ls' := [some (.inr (.inr 4000)), some (.inr (.inr x1)), some (.inr (.inr x2)), some (.inl (x3 + (6 : Int32)))]) ⟨rfl, ⟨rfl, ⟨rfl, ⟨rfl, trivial⟩⟩⟩⟩ (kk1 (x3 + (6 : Int32)) z4.2)
  · skip
    exact s_none
def f_L_law_J1327 (lim : Nat × Nat) (X : List Int32) (M : Mem) (x1 : Nat) (x2 : Nat) (x3 : Int32)  : Option ((Int32 × Mem) ⊕ ((Mem))) :=
  (scI X (x3 + (1 : Int32))).bind fun v1 =>
  (scI X (x3 + (2 : Int32))).bind fun v2 =>
  (scI X (x3 + (3 : Int32))).bind fun v3 =>
  (ob M 11 x1).bind fun _ => (f_X11_order M x1 v1 v2 v3).bind fun z4 =>
  (scI X (x3 + (1 : Int32))).bind fun v5 =>
  (scI X (x3 + (2 : Int32))).bind fun v6 =>
  (scI X (x3 + (3 : Int32))).bind fun v7 =>
  (ob z4.2 12 x2).bind fun _ => (f_X12_order z4.2 x2 v5 v6 v7).bind fun z8 =>
  (if z4.1 = z8.1 then
    some (.inl ((x3 + (6 : Int32)), z8.2))
  else
    none)
set_option maxHeartbeats 8000000 in
set_option maxRecDepth 20000 in
theorem J_L_law_1327 {l : Launch} {G : Gv} {lim : Nat × Nat} (M : Mem) (x1 : Nat) (x2 : Nat) (x3 : Int32)  (K : (Int32 × Mem) ⊕ ((Mem)) → Option (Option Value × Mem)) (kk1 : ∀ (s3 : Int32) (s_ : Mem), SimR l G Y_L_law lim (K (.inl (s3, s_))) 18 [some (.inr (.inr 4000)), some (.inr (.inr x1)), some (.inr (.inr x2)), some (.inl s3)] [] s_) (kk2_0 : ∀ (s_ : Mem), SimR l G Y_L_law lim (K (.inr s_)) 1851 [none, none, none, none] [] s_) : Sim l G Y_L_law lim (f_L_law_J1327 lim G.2.2.2.2 M x1 x2 x3) K 1327 [some (.inr (.inr 4000)), some (.inr (.inr x1)), some (.inr (.inr x2)), some (.inl x3)] [] M := by
  unfold f_L_law_J1327
  refine s_run (b := [(.aload_n 1, 1), (.aload_n 0, 1), (.iload_n 3, 1), (.iconst 1, 1), (.iadd, 1)]) 1332 [some (.inr (.inr 4000)), some (.inr (.inr x1)), some (.inr (.inr x2)), some (.inl x3)] [.inl (x3 + (1 : Int32)), .inr (.inr 4000), .inr (.inr x1)] (by decide +kernel) rfl ?_
  refine s_sc (by decide +kernel) (fun v1 => ?_)
  refine s_run (b := [(.aload_n 0, 1), (.iload_n 3, 1), (.iconst 2, 1), (.iadd, 1)]) 1337 [some (.inr (.inr 4000)), some (.inr (.inr x1)), some (.inr (.inr x2)), some (.inl x3)] [.inl (x3 + (2 : Int32)), .inr (.inr 4000), .inl v1, .inr (.inr x1)] (by decide +kernel) rfl ?_
  refine s_sc (by decide +kernel) (fun v2 => ?_)
  refine s_run (b := [(.aload_n 0, 1), (.iload_n 3, 1), (.iconst 3, 1), (.iadd, 1)]) 1342 [some (.inr (.inr 4000)), some (.inr (.inr x1)), some (.inr (.inr x2)), some (.inl x3)] [.inl (x3 + (3 : Int32)), .inr (.inr 4000), .inl v2, .inl v1, .inr (.inr x1)] (by decide +kernel) rfl ?_
  refine s_sc (by decide +kernel) (fun v3 => ?_)
  refine s_cV (Z := Y_X11_order) (c := 11) (vs := [.inl v1, .inl v2, .inl v3]) (st := []) (rO := fun z => some (.inl z.1)) (mO := fun z => z.2) zk_X11_order zi_X11_order q1190 rfl ⟨by decide, by decide⟩ ⟨rfl, rfl⟩ rfl rfl (Nat.le_of_ble_eq_true rfl) (by decide +kernel) (fun z hz => c_X11_order hz) (fun z4 => ?_)
  change Sim l G Y_L_law lim _ _ 1346 [some (.inr (.inr 4000)), some (.inr (.inr x1)), some (.inr (.inr x2)), some (.inl x3)] [.inl z4.1] z4.2
  refine s_run (b := [(.aload_n 2, 1), (.aload_n 0, 1), (.iload_n 3, 1), (.iconst 1, 1), (.iadd, 1)]) 1351 [some (.inr (.inr 4000)), some (.inr (.inr x1)), some (.inr (.inr x2)), some (.inl x3)] [.inl (x3 + (1 : Int32)), .inr (.inr 4000), .inr (.inr x2), .inl z4.1] (by decide +kernel) rfl ?_
  refine s_sc (by decide +kernel) (fun v5 => ?_)
  refine s_run (b := [(.aload_n 0, 1), (.iload_n 3, 1), (.iconst 2, 1), (.iadd, 1)]) 1356 [some (.inr (.inr 4000)), some (.inr (.inr x1)), some (.inr (.inr x2)), some (.inl x3)] [.inl (x3 + (2 : Int32)), .inr (.inr 4000), .inl v5, .inr (.inr x2), .inl z4.1] (by decide +kernel) rfl ?_
  refine s_sc (by decide +kernel) (fun v6 => ?_)
  refine s_run (b := [(.aload_n 0, 1), (.iload_n 3, 1), (.iconst 3, 1), (.iadd, 1)]) 1361 [some (.inr (.inr 4000)), some (.inr (.inr x1)), some (.inr (.inr x2)), some (.inl x3)] [.inl (x3 + (3 : Int32)), .inr (.inr 4000), .inl v6, .inl v5, .inr (.inr x2), .inl z4.1] (by decide +kernel) rfl ?_
  refine s_sc (by decide +kernel) (fun v7 => ?_)
  refine s_cV (Z := Y_X12_order) (c := 12) (vs := [.inl v5, .inl v6, .inl v7]) (st := [.inl z4.1]) (rO := fun z => some (.inl z.1)) (mO := fun z => z.2) zk_X12_order zi_X12_order q1811 rfl ⟨by decide, by decide⟩ ⟨rfl, rfl⟩ rfl rfl (Nat.le_of_ble_eq_true rfl) (by decide +kernel) (fun z hz => c_X12_order hz) (fun z8 => ?_)
  change Sim l G Y_L_law lim _ _ 1365 [some (.inr (.inr 4000)), some (.inr (.inr x1)), some (.inr (.inr x2)), some (.inl x3)] [.inl z8.1, .inl z4.1] z8.2
  refine s_ic_eq (tgt := 1845) (off := 480) (by decide +kernel) (by decide) (fun h9 => ?_) (fun h9 => ?_)
  · skip
    refine s_run (b := [(.iinc 3 6, 3), (.goto (-1830), 3)]) 18 [some (.inr (.inr 4000)), some (.inr (.inr x1)), some (.inr (.inr x2)), some (.inl (x3 + (6 : Int32)))] [] (by decide +kernel) rfl ?_
    exact s_lsub (ls' := [some (.inr (.inr 4000)), some (.inr (.inr x1)), some (.inr (.inr x2)), some (.inl (x3 + (6 : Int32)))]) ⟨rfl, ⟨rfl, ⟨rfl, ⟨rfl, trivial⟩⟩⟩⟩ (kk1 (x3 + (6 : Int32)) z8.2)
  · skip
    exact s_none
def f_L_law_J1370 (lim : Nat × Nat) (X : List Int32) (M : Mem) (x1 : Nat) (x2 : Nat) (x3 : Int32)  : Option ((Int32 × Mem) ⊕ ((Mem))) :=
  (scI X (x3 + (1 : Int32))).bind fun v1 =>
  (scI X (x3 + (2 : Int32))).bind fun v2 =>
  (scI X (x3 + (3 : Int32))).bind fun v3 =>
  (ob M 11 x1).bind fun _ => (f_X11_after M x1 v1 v2 v3).bind fun z4 =>
  (scI X (x3 + (1 : Int32))).bind fun v5 =>
  (scI X (x3 + (2 : Int32))).bind fun v6 =>
  (scI X (x3 + (3 : Int32))).bind fun v7 =>
  (ob z4.2 12 x2).bind fun _ => (f_X12_after z4.2 x2 v5 v6 v7).bind fun z8 =>
  (if z4.1 = z8.1 then
    some (.inl ((x3 + (6 : Int32)), z8.2))
  else
    none)
set_option maxHeartbeats 8000000 in
set_option maxRecDepth 20000 in
theorem J_L_law_1370 {l : Launch} {G : Gv} {lim : Nat × Nat} (M : Mem) (x1 : Nat) (x2 : Nat) (x3 : Int32)  (K : (Int32 × Mem) ⊕ ((Mem)) → Option (Option Value × Mem)) (kk1 : ∀ (s3 : Int32) (s_ : Mem), SimR l G Y_L_law lim (K (.inl (s3, s_))) 18 [some (.inr (.inr 4000)), some (.inr (.inr x1)), some (.inr (.inr x2)), some (.inl s3)] [] s_) (kk2_0 : ∀ (s_ : Mem), SimR l G Y_L_law lim (K (.inr s_)) 1851 [none, none, none, none] [] s_) : Sim l G Y_L_law lim (f_L_law_J1370 lim G.2.2.2.2 M x1 x2 x3) K 1370 [some (.inr (.inr 4000)), some (.inr (.inr x1)), some (.inr (.inr x2)), some (.inl x3)] [] M := by
  unfold f_L_law_J1370
  refine s_run (b := [(.aload_n 1, 1), (.aload_n 0, 1), (.iload_n 3, 1), (.iconst 1, 1), (.iadd, 1)]) 1375 [some (.inr (.inr 4000)), some (.inr (.inr x1)), some (.inr (.inr x2)), some (.inl x3)] [.inl (x3 + (1 : Int32)), .inr (.inr 4000), .inr (.inr x1)] (by decide +kernel) rfl ?_
  refine s_sc (by decide +kernel) (fun v1 => ?_)
  refine s_run (b := [(.aload_n 0, 1), (.iload_n 3, 1), (.iconst 2, 1), (.iadd, 1)]) 1380 [some (.inr (.inr 4000)), some (.inr (.inr x1)), some (.inr (.inr x2)), some (.inl x3)] [.inl (x3 + (2 : Int32)), .inr (.inr 4000), .inl v1, .inr (.inr x1)] (by decide +kernel) rfl ?_
  refine s_sc (by decide +kernel) (fun v2 => ?_)
  refine s_run (b := [(.aload_n 0, 1), (.iload_n 3, 1), (.iconst 3, 1), (.iadd, 1)]) 1385 [some (.inr (.inr 4000)), some (.inr (.inr x1)), some (.inr (.inr x2)), some (.inl x3)] [.inl (x3 + (3 : Int32)), .inr (.inr 4000), .inl v2, .inl v1, .inr (.inr x1)] (by decide +kernel) rfl ?_
  refine s_sc (by decide +kernel) (fun v3 => ?_)
  refine s_cV (Z := Y_X11_after) (c := 11) (vs := [.inl v1, .inl v2, .inl v3]) (st := []) (rO := fun z => some (.inl z.1)) (mO := fun z => z.2) zk_X11_after zi_X11_after q1213 rfl ⟨by decide, by decide⟩ ⟨rfl, rfl⟩ rfl rfl (Nat.le_of_ble_eq_true rfl) (by decide +kernel) (fun z hz => c_X11_after hz) (fun z4 => ?_)
  change Sim l G Y_L_law lim _ _ 1389 [some (.inr (.inr 4000)), some (.inr (.inr x1)), some (.inr (.inr x2)), some (.inl x3)] [.inl z4.1] z4.2
  refine s_run (b := [(.aload_n 2, 1), (.aload_n 0, 1), (.iload_n 3, 1), (.iconst 1, 1), (.iadd, 1)]) 1394 [some (.inr (.inr 4000)), some (.inr (.inr x1)), some (.inr (.inr x2)), some (.inl x3)] [.inl (x3 + (1 : Int32)), .inr (.inr 4000), .inr (.inr x2), .inl z4.1] (by decide +kernel) rfl ?_
  refine s_sc (by decide +kernel) (fun v5 => ?_)
  refine s_run (b := [(.aload_n 0, 1), (.iload_n 3, 1), (.iconst 2, 1), (.iadd, 1)]) 1399 [some (.inr (.inr 4000)), some (.inr (.inr x1)), some (.inr (.inr x2)), some (.inl x3)] [.inl (x3 + (2 : Int32)), .inr (.inr 4000), .inl v5, .inr (.inr x2), .inl z4.1] (by decide +kernel) rfl ?_
  refine s_sc (by decide +kernel) (fun v6 => ?_)
  refine s_run (b := [(.aload_n 0, 1), (.iload_n 3, 1), (.iconst 3, 1), (.iadd, 1)]) 1404 [some (.inr (.inr 4000)), some (.inr (.inr x1)), some (.inr (.inr x2)), some (.inl x3)] [.inl (x3 + (3 : Int32)), .inr (.inr 4000), .inl v6, .inl v5, .inr (.inr x2), .inl z4.1] (by decide +kernel) rfl ?_
  refine s_sc (by decide +kernel) (fun v7 => ?_)
  refine s_cV (Z := Y_X12_after) (c := 12) (vs := [.inl v5, .inl v6, .inl v7]) (st := [.inl z4.1]) (rO := fun z => some (.inl z.1)) (mO := fun z => z.2) zk_X12_after zi_X12_after q1870 rfl ⟨by decide, by decide⟩ ⟨rfl, rfl⟩ rfl rfl (Nat.le_of_ble_eq_true rfl) (by decide +kernel) (fun z hz => c_X12_after hz) (fun z8 => ?_)
  change Sim l G Y_L_law lim _ _ 1408 [some (.inr (.inr 4000)), some (.inr (.inr x1)), some (.inr (.inr x2)), some (.inl x3)] [.inl z8.1, .inl z4.1] z8.2
  refine s_ic_eq (tgt := 1845) (off := 437) (by decide +kernel) (by decide) (fun h9 => ?_) (fun h9 => ?_)
  · skip
    refine s_run (b := [(.iinc 3 6, 3), (.goto (-1830), 3)]) 18 [some (.inr (.inr 4000)), some (.inr (.inr x1)), some (.inr (.inr x2)), some (.inl (x3 + (6 : Int32)))] [] (by decide +kernel) rfl ?_
    exact s_lsub (ls' := [some (.inr (.inr 4000)), some (.inr (.inr x1)), some (.inr (.inr x2)), some (.inl (x3 + (6 : Int32)))]) ⟨rfl, ⟨rfl, ⟨rfl, ⟨rfl, trivial⟩⟩⟩⟩ (kk1 (x3 + (6 : Int32)) z8.2)
  · skip
    exact s_none
def f_L_law_J1464 (lim : Nat × Nat) (X : List Int32) (M : Mem) (x1 : Nat) (x2 : Nat) (x3 : Int32) (y0 : Int32) (y1 : Nat) (y2 : Int32) (y3 : Int32) (y4 : Int32) : Option ((Int32 × Mem) ⊕ ((Mem))) :=
  (ob M 12 y1).bind fun _ => (f_X12_blame M y1 y2 y3 y4).bind fun z1 =>
  (if y0 = z1.1 then
    some (.inl ((x3 + (6 : Int32)), z1.2))
  else
    none)
set_option maxHeartbeats 8000000 in
set_option maxRecDepth 20000 in
theorem J_L_law_1464 {l : Launch} {G : Gv} {lim : Nat × Nat} (M : Mem) (x1 : Nat) (x2 : Nat) (x3 : Int32) (y0 : Int32) (y1 : Nat) (y2 : Int32) (y3 : Int32) (y4 : Int32) (K : (Int32 × Mem) ⊕ ((Mem)) → Option (Option Value × Mem)) (kk1 : ∀ (s3 : Int32) (s_ : Mem), SimR l G Y_L_law lim (K (.inl (s3, s_))) 18 [some (.inr (.inr 4000)), some (.inr (.inr x1)), some (.inr (.inr x2)), some (.inl s3)] [] s_) (kk2_0 : ∀ (s_ : Mem), SimR l G Y_L_law lim (K (.inr s_)) 1851 [none, none, none, none] [] s_) : Sim l G Y_L_law lim (f_L_law_J1464 lim G.2.2.2.2 M x1 x2 x3 y0 y1 y2 y3 y4) K 1464 [some (.inr (.inr 4000)), some (.inr (.inr x1)), some (.inr (.inr x2)), some (.inl x3)] [.inl y4, .inl y3, .inl y2, .inr (.inr y1), .inl y0] M := by
  unfold f_L_law_J1464
  refine s_cV (Z := Y_X12_blame) (c := 12) (vs := [.inl y2, .inl y3, .inl y4]) (st := [.inl y0]) (rO := fun z => some (.inl z.1)) (mO := fun z => z.2) zk_X12_blame zi_X12_blame q1878 rfl ⟨by decide, by decide⟩ ⟨rfl, rfl⟩ rfl rfl (Nat.le_of_ble_eq_true rfl) (by decide +kernel) (fun z hz => c_X12_blame hz) (fun z1 => ?_)
  change Sim l G Y_L_law lim _ _ 1467 [some (.inr (.inr 4000)), some (.inr (.inr x1)), some (.inr (.inr x2)), some (.inl x3)] [.inl z1.1, .inl y0] z1.2
  refine s_ic_eq (tgt := 1845) (off := 378) (by decide +kernel) (by decide) (fun h2 => ?_) (fun h2 => ?_)
  · skip
    refine s_run (b := [(.iinc 3 6, 3), (.goto (-1830), 3)]) 18 [some (.inr (.inr 4000)), some (.inr (.inr x1)), some (.inr (.inr x2)), some (.inl (x3 + (6 : Int32)))] [] (by decide +kernel) rfl ?_
    exact s_lsub (ls' := [some (.inr (.inr 4000)), some (.inr (.inr x1)), some (.inr (.inr x2)), some (.inl (x3 + (6 : Int32)))]) ⟨rfl, ⟨rfl, ⟨rfl, ⟨rfl, trivial⟩⟩⟩⟩ (kk1 (x3 + (6 : Int32)) z1.2)
  · skip
    exact s_none
def f_L_law_J1437 (lim : Nat × Nat) (X : List Int32) (M : Mem) (x1 : Nat) (x2 : Nat) (x3 : Int32) (y0 : Nat) (y1 : Int32) (y2 : Int32) (y3 : Int32) : Option ((Int32 × Mem) ⊕ ((Mem))) :=
  (ob M 11 y0).bind fun _ => (f_X11_blame M y0 y1 y2 y3).bind fun z1 =>
  (scI X (x3 + (1 : Int32))).bind fun v2 =>
  (scI X (x3 + (2 : Int32))).bind fun v3 =>
  (scI X (x3 + (3 : Int32))).bind fun v4 =>
  (if v4 = 0 then
    f_L_law_J1464 lim X z1.2 x1 x2 x3 z1.1 x2 v2 v3 (0 : Int32)
  else
    f_L_law_J1464 lim X z1.2 x1 x2 x3 z1.1 x2 v2 v3 (1 : Int32))
set_option maxHeartbeats 8000000 in
set_option maxRecDepth 20000 in
theorem J_L_law_1437 {l : Launch} {G : Gv} {lim : Nat × Nat} (M : Mem) (x1 : Nat) (x2 : Nat) (x3 : Int32) (y0 : Nat) (y1 : Int32) (y2 : Int32) (y3 : Int32) (K : (Int32 × Mem) ⊕ ((Mem)) → Option (Option Value × Mem)) (kk1 : ∀ (s3 : Int32) (s_ : Mem), SimR l G Y_L_law lim (K (.inl (s3, s_))) 18 [some (.inr (.inr 4000)), some (.inr (.inr x1)), some (.inr (.inr x2)), some (.inl s3)] [] s_) (kk2_0 : ∀ (s_ : Mem), SimR l G Y_L_law lim (K (.inr s_)) 1851 [none, none, none, none] [] s_) : Sim l G Y_L_law lim (f_L_law_J1437 lim G.2.2.2.2 M x1 x2 x3 y0 y1 y2 y3) K 1437 [some (.inr (.inr 4000)), some (.inr (.inr x1)), some (.inr (.inr x2)), some (.inl x3)] [.inl y3, .inl y2, .inl y1, .inr (.inr y0)] M := by
  unfold f_L_law_J1437
  refine s_cV (Z := Y_X11_blame) (c := 11) (vs := [.inl y1, .inl y2, .inl y3]) (st := []) (rO := fun z => some (.inl z.1)) (mO := fun z => z.2) zk_X11_blame zi_X11_blame q1230 rfl ⟨by decide, by decide⟩ ⟨rfl, rfl⟩ rfl rfl (Nat.le_of_ble_eq_true rfl) (by decide +kernel) (fun z hz => c_X11_blame hz) (fun z1 => ?_)
  change Sim l G Y_L_law lim _ _ 1440 [some (.inr (.inr 4000)), some (.inr (.inr x1)), some (.inr (.inr x2)), some (.inl x3)] [.inl z1.1] z1.2
  refine s_run (b := [(.aload_n 2, 1), (.aload_n 0, 1), (.iload_n 3, 1), (.iconst 1, 1), (.iadd, 1)]) 1445 [some (.inr (.inr 4000)), some (.inr (.inr x1)), some (.inr (.inr x2)), some (.inl x3)] [.inl (x3 + (1 : Int32)), .inr (.inr 4000), .inr (.inr x2), .inl z1.1] (by decide +kernel) rfl ?_
  refine s_sc (by decide +kernel) (fun v2 => ?_)
  refine s_run (b := [(.aload_n 0, 1), (.iload_n 3, 1), (.iconst 2, 1), (.iadd, 1)]) 1450 [some (.inr (.inr 4000)), some (.inr (.inr x1)), some (.inr (.inr x2)), some (.inl x3)] [.inl (x3 + (2 : Int32)), .inr (.inr 4000), .inl v2, .inr (.inr x2), .inl z1.1] (by decide +kernel) rfl ?_
  refine s_sc (by decide +kernel) (fun v3 => ?_)
  refine s_run (b := [(.aload_n 0, 1), (.iload_n 3, 1), (.iconst 3, 1), (.iadd, 1)]) 1455 [some (.inr (.inr 4000)), some (.inr (.inr x1)), some (.inr (.inr x2)), some (.inl x3)] [.inl (x3 + (3 : Int32)), .inr (.inr 4000), .inl v3, .inl v2, .inr (.inr x2), .inl z1.1] (by decide +kernel) rfl ?_
  refine s_sc (by decide +kernel) (fun v4 => ?_)
  refine s_if_eq (tgt := 1463) (off := 7) (by decide +kernel) (by decide) (fun h5 => ?_) (fun h5 => ?_)
  · skip
    refine s_run (b := [(.iconst 0, 1)]) 1464 [some (.inr (.inr 4000)), some (.inr (.inr x1)), some (.inr (.inr x2)), some (.inl x3)] [.inl (0 : Int32), .inl v3, .inl v2, .inr (.inr x2), .inl z1.1] (by decide +kernel) rfl ?_
    exact s_lsub (ls' := [some (.inr (.inr 4000)), some (.inr (.inr x1)), some (.inr (.inr x2)), some (.inl x3)]) ⟨rfl, ⟨rfl, ⟨rfl, ⟨rfl, trivial⟩⟩⟩⟩ (J_L_law_1464 z1.2 x1 x2 x3 z1.1 x2 v2 v3 (0 : Int32) K kk1 kk2_0)
  · skip
    refine s_run (b := [(.iconst 1, 1), (.goto 4, 3)]) 1464 [some (.inr (.inr 4000)), some (.inr (.inr x1)), some (.inr (.inr x2)), some (.inl x3)] [.inl (1 : Int32), .inl v3, .inl v2, .inr (.inr x2), .inl z1.1] (by decide +kernel) rfl ?_
    exact s_lsub (ls' := [some (.inr (.inr 4000)), some (.inr (.inr x1)), some (.inr (.inr x2)), some (.inl x3)]) ⟨rfl, ⟨rfl, ⟨rfl, ⟨rfl, trivial⟩⟩⟩⟩ (J_L_law_1464 z1.2 x1 x2 x3 z1.1 x2 v2 v3 (1 : Int32) K kk1 kk2_0)
def f_L_law_J1413 (lim : Nat × Nat) (X : List Int32) (M : Mem) (x1 : Nat) (x2 : Nat) (x3 : Int32)  : Option ((Int32 × Mem) ⊕ ((Mem))) :=
  (scI X (x3 + (1 : Int32))).bind fun v1 =>
  (scI X (x3 + (2 : Int32))).bind fun v2 =>
  (scI X (x3 + (3 : Int32))).bind fun v3 =>
  (if v3 = 0 then
    f_L_law_J1437 lim X M x1 x2 x3 x1 v1 v2 (0 : Int32)
  else
    f_L_law_J1437 lim X M x1 x2 x3 x1 v1 v2 (1 : Int32))
set_option maxHeartbeats 8000000 in
set_option maxRecDepth 20000 in
theorem J_L_law_1413 {l : Launch} {G : Gv} {lim : Nat × Nat} (M : Mem) (x1 : Nat) (x2 : Nat) (x3 : Int32)  (K : (Int32 × Mem) ⊕ ((Mem)) → Option (Option Value × Mem)) (kk1 : ∀ (s3 : Int32) (s_ : Mem), SimR l G Y_L_law lim (K (.inl (s3, s_))) 18 [some (.inr (.inr 4000)), some (.inr (.inr x1)), some (.inr (.inr x2)), some (.inl s3)] [] s_) (kk2_0 : ∀ (s_ : Mem), SimR l G Y_L_law lim (K (.inr s_)) 1851 [none, none, none, none] [] s_) : Sim l G Y_L_law lim (f_L_law_J1413 lim G.2.2.2.2 M x1 x2 x3) K 1413 [some (.inr (.inr 4000)), some (.inr (.inr x1)), some (.inr (.inr x2)), some (.inl x3)] [] M := by
  unfold f_L_law_J1413
  refine s_run (b := [(.aload_n 1, 1), (.aload_n 0, 1), (.iload_n 3, 1), (.iconst 1, 1), (.iadd, 1)]) 1418 [some (.inr (.inr 4000)), some (.inr (.inr x1)), some (.inr (.inr x2)), some (.inl x3)] [.inl (x3 + (1 : Int32)), .inr (.inr 4000), .inr (.inr x1)] (by decide +kernel) rfl ?_
  refine s_sc (by decide +kernel) (fun v1 => ?_)
  refine s_run (b := [(.aload_n 0, 1), (.iload_n 3, 1), (.iconst 2, 1), (.iadd, 1)]) 1423 [some (.inr (.inr 4000)), some (.inr (.inr x1)), some (.inr (.inr x2)), some (.inl x3)] [.inl (x3 + (2 : Int32)), .inr (.inr 4000), .inl v1, .inr (.inr x1)] (by decide +kernel) rfl ?_
  refine s_sc (by decide +kernel) (fun v2 => ?_)
  refine s_run (b := [(.aload_n 0, 1), (.iload_n 3, 1), (.iconst 3, 1), (.iadd, 1)]) 1428 [some (.inr (.inr 4000)), some (.inr (.inr x1)), some (.inr (.inr x2)), some (.inl x3)] [.inl (x3 + (3 : Int32)), .inr (.inr 4000), .inl v2, .inl v1, .inr (.inr x1)] (by decide +kernel) rfl ?_
  refine s_sc (by decide +kernel) (fun v3 => ?_)
  refine s_if_eq (tgt := 1436) (off := 7) (by decide +kernel) (by decide) (fun h4 => ?_) (fun h4 => ?_)
  · skip
    refine s_run (b := [(.iconst 0, 1)]) 1437 [some (.inr (.inr 4000)), some (.inr (.inr x1)), some (.inr (.inr x2)), some (.inl x3)] [.inl (0 : Int32), .inl v2, .inl v1, .inr (.inr x1)] (by decide +kernel) rfl ?_
    exact s_lsub (ls' := [some (.inr (.inr 4000)), some (.inr (.inr x1)), some (.inr (.inr x2)), some (.inl x3)]) ⟨rfl, ⟨rfl, ⟨rfl, ⟨rfl, trivial⟩⟩⟩⟩ (J_L_law_1437 M x1 x2 x3 x1 v1 v2 (0 : Int32) K kk1 kk2_0)
  · skip
    refine s_run (b := [(.iconst 1, 1), (.goto 4, 3)]) 1437 [some (.inr (.inr 4000)), some (.inr (.inr x1)), some (.inr (.inr x2)), some (.inl x3)] [.inl (1 : Int32), .inl v2, .inl v1, .inr (.inr x1)] (by decide +kernel) rfl ?_
    exact s_lsub (ls' := [some (.inr (.inr 4000)), some (.inr (.inr x1)), some (.inr (.inr x2)), some (.inl x3)]) ⟨rfl, ⟨rfl, ⟨rfl, ⟨rfl, trivial⟩⟩⟩⟩ (J_L_law_1437 M x1 x2 x3 x1 v1 v2 (1 : Int32) K kk1 kk2_0)
def f_L_law_J1472 (lim : Nat × Nat) (X : List Int32) (M : Mem) (x1 : Nat) (x2 : Nat) (x3 : Int32)  : Option ((Int32 × Mem) ⊕ ((Mem))) :=
  (scI X (x3 + (1 : Int32))).bind fun v1 =>
  (scI X (x3 + (2 : Int32))).bind fun v2 =>
  (scI X (x3 + (3 : Int32))).bind fun v3 =>
  (ob M 11 x1).bind fun _ => (f_X11_duty M x1 v1 v2 v3).bind fun z4 =>
  (scI X (x3 + (1 : Int32))).bind fun v5 =>
  (scI X (x3 + (2 : Int32))).bind fun v6 =>
  (scI X (x3 + (3 : Int32))).bind fun v7 =>
  (ob z4.2 12 x2).bind fun _ => (f_X12_duty z4.2 x2 v5 v6 v7).bind fun z8 =>
  (if z4.1 = z8.1 then
    some (.inl ((x3 + (6 : Int32)), z8.2))
  else
    none)
set_option maxHeartbeats 8000000 in
set_option maxRecDepth 20000 in
theorem J_L_law_1472 {l : Launch} {G : Gv} {lim : Nat × Nat} (M : Mem) (x1 : Nat) (x2 : Nat) (x3 : Int32)  (K : (Int32 × Mem) ⊕ ((Mem)) → Option (Option Value × Mem)) (kk1 : ∀ (s3 : Int32) (s_ : Mem), SimR l G Y_L_law lim (K (.inl (s3, s_))) 18 [some (.inr (.inr 4000)), some (.inr (.inr x1)), some (.inr (.inr x2)), some (.inl s3)] [] s_) (kk2_0 : ∀ (s_ : Mem), SimR l G Y_L_law lim (K (.inr s_)) 1851 [none, none, none, none] [] s_) : Sim l G Y_L_law lim (f_L_law_J1472 lim G.2.2.2.2 M x1 x2 x3) K 1472 [some (.inr (.inr 4000)), some (.inr (.inr x1)), some (.inr (.inr x2)), some (.inl x3)] [] M := by
  unfold f_L_law_J1472
  refine s_run (b := [(.aload_n 1, 1), (.aload_n 0, 1), (.iload_n 3, 1), (.iconst 1, 1), (.iadd, 1)]) 1477 [some (.inr (.inr 4000)), some (.inr (.inr x1)), some (.inr (.inr x2)), some (.inl x3)] [.inl (x3 + (1 : Int32)), .inr (.inr 4000), .inr (.inr x1)] (by decide +kernel) rfl ?_
  refine s_sc (by decide +kernel) (fun v1 => ?_)
  refine s_run (b := [(.aload_n 0, 1), (.iload_n 3, 1), (.iconst 2, 1), (.iadd, 1)]) 1482 [some (.inr (.inr 4000)), some (.inr (.inr x1)), some (.inr (.inr x2)), some (.inl x3)] [.inl (x3 + (2 : Int32)), .inr (.inr 4000), .inl v1, .inr (.inr x1)] (by decide +kernel) rfl ?_
  refine s_sc (by decide +kernel) (fun v2 => ?_)
  refine s_run (b := [(.aload_n 0, 1), (.iload_n 3, 1), (.iconst 3, 1), (.iadd, 1)]) 1487 [some (.inr (.inr 4000)), some (.inr (.inr x1)), some (.inr (.inr x2)), some (.inl x3)] [.inl (x3 + (3 : Int32)), .inr (.inr 4000), .inl v2, .inl v1, .inr (.inr x1)] (by decide +kernel) rfl ?_
  refine s_sc (by decide +kernel) (fun v3 => ?_)
  refine s_cV (Z := Y_X11_duty) (c := 11) (vs := [.inl v1, .inl v2, .inl v3]) (st := []) (rO := fun z => some (.inl z.1)) (mO := fun z => z.2) zk_X11_duty zi_X11_duty q1239 rfl ⟨by decide, by decide⟩ ⟨rfl, rfl⟩ rfl rfl (Nat.le_of_ble_eq_true rfl) (by decide +kernel) (fun z hz => c_X11_duty hz) (fun z4 => ?_)
  change Sim l G Y_L_law lim _ _ 1491 [some (.inr (.inr 4000)), some (.inr (.inr x1)), some (.inr (.inr x2)), some (.inl x3)] [.inl z4.1] z4.2
  refine s_run (b := [(.aload_n 2, 1), (.aload_n 0, 1), (.iload_n 3, 1), (.iconst 1, 1), (.iadd, 1)]) 1496 [some (.inr (.inr 4000)), some (.inr (.inr x1)), some (.inr (.inr x2)), some (.inl x3)] [.inl (x3 + (1 : Int32)), .inr (.inr 4000), .inr (.inr x2), .inl z4.1] (by decide +kernel) rfl ?_
  refine s_sc (by decide +kernel) (fun v5 => ?_)
  refine s_run (b := [(.aload_n 0, 1), (.iload_n 3, 1), (.iconst 2, 1), (.iadd, 1)]) 1501 [some (.inr (.inr 4000)), some (.inr (.inr x1)), some (.inr (.inr x2)), some (.inl x3)] [.inl (x3 + (2 : Int32)), .inr (.inr 4000), .inl v5, .inr (.inr x2), .inl z4.1] (by decide +kernel) rfl ?_
  refine s_sc (by decide +kernel) (fun v6 => ?_)
  refine s_run (b := [(.aload_n 0, 1), (.iload_n 3, 1), (.iconst 3, 1), (.iadd, 1)]) 1506 [some (.inr (.inr 4000)), some (.inr (.inr x1)), some (.inr (.inr x2)), some (.inl x3)] [.inl (x3 + (3 : Int32)), .inr (.inr 4000), .inl v6, .inl v5, .inr (.inr x2), .inl z4.1] (by decide +kernel) rfl ?_
  refine s_sc (by decide +kernel) (fun v7 => ?_)
  refine s_cV (Z := Y_X12_duty) (c := 12) (vs := [.inl v5, .inl v6, .inl v7]) (st := [.inl z4.1]) (rO := fun z => some (.inl z.1)) (mO := fun z => z.2) zk_X12_duty zi_X12_duty q1882 rfl ⟨by decide, by decide⟩ ⟨rfl, rfl⟩ rfl rfl (Nat.le_of_ble_eq_true rfl) (by decide +kernel) (fun z hz => c_X12_duty hz) (fun z8 => ?_)
  change Sim l G Y_L_law lim _ _ 1510 [some (.inr (.inr 4000)), some (.inr (.inr x1)), some (.inr (.inr x2)), some (.inl x3)] [.inl z8.1, .inl z4.1] z8.2
  refine s_ic_eq (tgt := 1845) (off := 335) (by decide +kernel) (by decide) (fun h9 => ?_) (fun h9 => ?_)
  · skip
    refine s_run (b := [(.iinc 3 6, 3), (.goto (-1830), 3)]) 18 [some (.inr (.inr 4000)), some (.inr (.inr x1)), some (.inr (.inr x2)), some (.inl (x3 + (6 : Int32)))] [] (by decide +kernel) rfl ?_
    exact s_lsub (ls' := [some (.inr (.inr 4000)), some (.inr (.inr x1)), some (.inr (.inr x2)), some (.inl (x3 + (6 : Int32)))]) ⟨rfl, ⟨rfl, ⟨rfl, ⟨rfl, trivial⟩⟩⟩⟩ (kk1 (x3 + (6 : Int32)) z8.2)
  · skip
    exact s_none
def f_L_law_J1515 (lim : Nat × Nat) (X : List Int32) (M : Mem) (x1 : Nat) (x2 : Nat) (x3 : Int32)  : Option ((Int32 × Mem) ⊕ ((Mem))) :=
  (scI X (x3 + (1 : Int32))).bind fun v1 =>
  (scI X (x3 + (2 : Int32))).bind fun v2 =>
  (scI X (x3 + (3 : Int32))).bind fun v3 =>
  (ob M 11 x1).bind fun _ => (f_X11_passed M x1 v1 v2 v3).bind fun v4 =>
  (scI X (x3 + (1 : Int32))).bind fun v5 =>
  (scI X (x3 + (2 : Int32))).bind fun v6 =>
  (scI X (x3 + (3 : Int32))).bind fun v7 =>
  (ob M 12 x2).bind fun _ => (f_X12_passed M x2 v5 v6 v7).bind fun z8 =>
  (if v4 = z8.1 then
    some (.inl ((x3 + (6 : Int32)), z8.2))
  else
    none)
set_option maxHeartbeats 8000000 in
set_option maxRecDepth 20000 in
theorem J_L_law_1515 {l : Launch} {G : Gv} {lim : Nat × Nat} (M : Mem) (x1 : Nat) (x2 : Nat) (x3 : Int32)  (K : (Int32 × Mem) ⊕ ((Mem)) → Option (Option Value × Mem)) (kk1 : ∀ (s3 : Int32) (s_ : Mem), SimR l G Y_L_law lim (K (.inl (s3, s_))) 18 [some (.inr (.inr 4000)), some (.inr (.inr x1)), some (.inr (.inr x2)), some (.inl s3)] [] s_) (kk2_0 : ∀ (s_ : Mem), SimR l G Y_L_law lim (K (.inr s_)) 1851 [none, none, none, none] [] s_) : Sim l G Y_L_law lim (f_L_law_J1515 lim G.2.2.2.2 M x1 x2 x3) K 1515 [some (.inr (.inr 4000)), some (.inr (.inr x1)), some (.inr (.inr x2)), some (.inl x3)] [] M := by
  unfold f_L_law_J1515
  refine s_run (b := [(.aload_n 1, 1), (.aload_n 0, 1), (.iload_n 3, 1), (.iconst 1, 1), (.iadd, 1)]) 1520 [some (.inr (.inr 4000)), some (.inr (.inr x1)), some (.inr (.inr x2)), some (.inl x3)] [.inl (x3 + (1 : Int32)), .inr (.inr 4000), .inr (.inr x1)] (by decide +kernel) rfl ?_
  refine s_sc (by decide +kernel) (fun v1 => ?_)
  refine s_run (b := [(.aload_n 0, 1), (.iload_n 3, 1), (.iconst 2, 1), (.iadd, 1)]) 1525 [some (.inr (.inr 4000)), some (.inr (.inr x1)), some (.inr (.inr x2)), some (.inl x3)] [.inl (x3 + (2 : Int32)), .inr (.inr 4000), .inl v1, .inr (.inr x1)] (by decide +kernel) rfl ?_
  refine s_sc (by decide +kernel) (fun v2 => ?_)
  refine s_run (b := [(.aload_n 0, 1), (.iload_n 3, 1), (.iconst 3, 1), (.iadd, 1)]) 1530 [some (.inr (.inr 4000)), some (.inr (.inr x1)), some (.inr (.inr x2)), some (.inl x3)] [.inl (x3 + (3 : Int32)), .inr (.inr 4000), .inl v2, .inl v1, .inr (.inr x1)] (by decide +kernel) rfl ?_
  refine s_sc (by decide +kernel) (fun v3 => ?_)
  refine s_cV (Z := Y_X11_passed) (c := 11) (vs := [.inl v1, .inl v2, .inl v3]) (st := []) (rO := fun z => some (.inl z)) (mO := fun _ => M) zk_X11_passed zi_X11_passed q1251 rfl ⟨by decide, by decide⟩ ⟨rfl, rfl⟩ rfl rfl (Nat.le_of_ble_eq_true rfl) (by decide +kernel) (fun z hz => c_X11_passed hz) (fun v4 => ?_)
  change Sim l G Y_L_law lim _ _ 1534 [some (.inr (.inr 4000)), some (.inr (.inr x1)), some (.inr (.inr x2)), some (.inl x3)] [.inl v4] M
  refine s_run (b := [(.aload_n 2, 1), (.aload_n 0, 1), (.iload_n 3, 1), (.iconst 1, 1), (.iadd, 1)]) 1539 [some (.inr (.inr 4000)), some (.inr (.inr x1)), some (.inr (.inr x2)), some (.inl x3)] [.inl (x3 + (1 : Int32)), .inr (.inr 4000), .inr (.inr x2), .inl v4] (by decide +kernel) rfl ?_
  refine s_sc (by decide +kernel) (fun v5 => ?_)
  refine s_run (b := [(.aload_n 0, 1), (.iload_n 3, 1), (.iconst 2, 1), (.iadd, 1)]) 1544 [some (.inr (.inr 4000)), some (.inr (.inr x1)), some (.inr (.inr x2)), some (.inl x3)] [.inl (x3 + (2 : Int32)), .inr (.inr 4000), .inl v5, .inr (.inr x2), .inl v4] (by decide +kernel) rfl ?_
  refine s_sc (by decide +kernel) (fun v6 => ?_)
  refine s_run (b := [(.aload_n 0, 1), (.iload_n 3, 1), (.iconst 3, 1), (.iadd, 1)]) 1549 [some (.inr (.inr 4000)), some (.inr (.inr x1)), some (.inr (.inr x2)), some (.inl x3)] [.inl (x3 + (3 : Int32)), .inr (.inr 4000), .inl v6, .inl v5, .inr (.inr x2), .inl v4] (by decide +kernel) rfl ?_
  refine s_sc (by decide +kernel) (fun v7 => ?_)
  refine s_cV (Z := Y_X12_passed) (c := 12) (vs := [.inl v5, .inl v6, .inl v7]) (st := [.inl v4]) (rO := fun z => some (.inl z.1)) (mO := fun z => z.2) zk_X12_passed zi_X12_passed q1894 rfl ⟨by decide, by decide⟩ ⟨rfl, rfl⟩ rfl rfl (Nat.le_of_ble_eq_true rfl) (by decide +kernel) (fun z hz => c_X12_passed hz) (fun z8 => ?_)
  change Sim l G Y_L_law lim _ _ 1553 [some (.inr (.inr 4000)), some (.inr (.inr x1)), some (.inr (.inr x2)), some (.inl x3)] [.inl z8.1, .inl v4] z8.2
  refine s_ic_eq (tgt := 1845) (off := 292) (by decide +kernel) (by decide) (fun h9 => ?_) (fun h9 => ?_)
  · skip
    refine s_run (b := [(.iinc 3 6, 3), (.goto (-1830), 3)]) 18 [some (.inr (.inr 4000)), some (.inr (.inr x1)), some (.inr (.inr x2)), some (.inl (x3 + (6 : Int32)))] [] (by decide +kernel) rfl ?_
    exact s_lsub (ls' := [some (.inr (.inr 4000)), some (.inr (.inr x1)), some (.inr (.inr x2)), some (.inl (x3 + (6 : Int32)))]) ⟨rfl, ⟨rfl, ⟨rfl, ⟨rfl, trivial⟩⟩⟩⟩ (kk1 (x3 + (6 : Int32)) z8.2)
  · skip
    exact s_none
def f_L_law_J1558 (lim : Nat × Nat) (X : List Int32) (M : Mem) (x1 : Nat) (x2 : Nat) (x3 : Int32)  : Option ((Int32 × Mem) ⊕ ((Mem))) :=
  (scI X (x3 + (1 : Int32))).bind fun v1 =>
  (scI X (x3 + (2 : Int32))).bind fun v2 =>
  (ob M 11 x1).bind fun _ => (f_X11_tied M x1 v1 v2).bind fun z3 =>
  (scI X (x3 + (1 : Int32))).bind fun v4 =>
  (scI X (x3 + (2 : Int32))).bind fun v5 =>
  (ob z3.2 12 x2).bind fun _ => (f_X12_tied z3.2 x2 v4 v5).bind fun z6 =>
  (if z3.1 = z6.1 then
    some (.inl ((x3 + (6 : Int32)), z6.2))
  else
    none)
set_option maxHeartbeats 8000000 in
set_option maxRecDepth 20000 in
theorem J_L_law_1558 {l : Launch} {G : Gv} {lim : Nat × Nat} (M : Mem) (x1 : Nat) (x2 : Nat) (x3 : Int32)  (K : (Int32 × Mem) ⊕ ((Mem)) → Option (Option Value × Mem)) (kk1 : ∀ (s3 : Int32) (s_ : Mem), SimR l G Y_L_law lim (K (.inl (s3, s_))) 18 [some (.inr (.inr 4000)), some (.inr (.inr x1)), some (.inr (.inr x2)), some (.inl s3)] [] s_) (kk2_0 : ∀ (s_ : Mem), SimR l G Y_L_law lim (K (.inr s_)) 1851 [none, none, none, none] [] s_) : Sim l G Y_L_law lim (f_L_law_J1558 lim G.2.2.2.2 M x1 x2 x3) K 1558 [some (.inr (.inr 4000)), some (.inr (.inr x1)), some (.inr (.inr x2)), some (.inl x3)] [] M := by
  unfold f_L_law_J1558
  refine s_run (b := [(.aload_n 1, 1), (.aload_n 0, 1), (.iload_n 3, 1), (.iconst 1, 1), (.iadd, 1)]) 1563 [some (.inr (.inr 4000)), some (.inr (.inr x1)), some (.inr (.inr x2)), some (.inl x3)] [.inl (x3 + (1 : Int32)), .inr (.inr 4000), .inr (.inr x1)] (by decide +kernel) rfl ?_
  refine s_sc (by decide +kernel) (fun v1 => ?_)
  refine s_run (b := [(.aload_n 0, 1), (.iload_n 3, 1), (.iconst 2, 1), (.iadd, 1)]) 1568 [some (.inr (.inr 4000)), some (.inr (.inr x1)), some (.inr (.inr x2)), some (.inl x3)] [.inl (x3 + (2 : Int32)), .inr (.inr 4000), .inl v1, .inr (.inr x1)] (by decide +kernel) rfl ?_
  refine s_sc (by decide +kernel) (fun v2 => ?_)
  refine s_cV (Z := Y_X11_tied) (c := 11) (vs := [.inl v1, .inl v2]) (st := []) (rO := fun z => some (.inl z.1)) (mO := fun z => z.2) zk_X11_tied zi_X11_tied q1259 rfl ⟨by decide, by decide⟩ ⟨rfl, rfl⟩ rfl rfl (Nat.le_of_ble_eq_true rfl) (by decide +kernel) (fun z hz => c_X11_tied hz) (fun z3 => ?_)
  change Sim l G Y_L_law lim _ _ 1572 [some (.inr (.inr 4000)), some (.inr (.inr x1)), some (.inr (.inr x2)), some (.inl x3)] [.inl z3.1] z3.2
  refine s_run (b := [(.aload_n 2, 1), (.aload_n 0, 1), (.iload_n 3, 1), (.iconst 1, 1), (.iadd, 1)]) 1577 [some (.inr (.inr 4000)), some (.inr (.inr x1)), some (.inr (.inr x2)), some (.inl x3)] [.inl (x3 + (1 : Int32)), .inr (.inr 4000), .inr (.inr x2), .inl z3.1] (by decide +kernel) rfl ?_
  refine s_sc (by decide +kernel) (fun v4 => ?_)
  refine s_run (b := [(.aload_n 0, 1), (.iload_n 3, 1), (.iconst 2, 1), (.iadd, 1)]) 1582 [some (.inr (.inr 4000)), some (.inr (.inr x1)), some (.inr (.inr x2)), some (.inl x3)] [.inl (x3 + (2 : Int32)), .inr (.inr 4000), .inl v4, .inr (.inr x2), .inl z3.1] (by decide +kernel) rfl ?_
  refine s_sc (by decide +kernel) (fun v5 => ?_)
  refine s_cV (Z := Y_X12_tied) (c := 12) (vs := [.inl v4, .inl v5]) (st := [.inl z3.1]) (rO := fun z => some (.inl z.1)) (mO := fun z => z.2) zk_X12_tied zi_X12_tied q1898 rfl ⟨by decide, by decide⟩ ⟨rfl, rfl⟩ rfl rfl (Nat.le_of_ble_eq_true rfl) (by decide +kernel) (fun z hz => c_X12_tied hz) (fun z6 => ?_)
  change Sim l G Y_L_law lim _ _ 1586 [some (.inr (.inr 4000)), some (.inr (.inr x1)), some (.inr (.inr x2)), some (.inl x3)] [.inl z6.1, .inl z3.1] z6.2
  refine s_ic_eq (tgt := 1845) (off := 259) (by decide +kernel) (by decide) (fun h7 => ?_) (fun h7 => ?_)
  · skip
    refine s_run (b := [(.iinc 3 6, 3), (.goto (-1830), 3)]) 18 [some (.inr (.inr 4000)), some (.inr (.inr x1)), some (.inr (.inr x2)), some (.inl (x3 + (6 : Int32)))] [] (by decide +kernel) rfl ?_
    exact s_lsub (ls' := [some (.inr (.inr 4000)), some (.inr (.inr x1)), some (.inr (.inr x2)), some (.inl (x3 + (6 : Int32)))]) ⟨rfl, ⟨rfl, ⟨rfl, ⟨rfl, trivial⟩⟩⟩⟩ (kk1 (x3 + (6 : Int32)) z6.2)
  · skip
    exact s_none
def f_L_law_J1642 (lim : Nat × Nat) (X : List Int32) (M : Mem) (x1 : Nat) (x2 : Nat) (x3 : Int32) (y0 : Int64) (y1 : Nat) (y2 : Int32) (y3 : Int32) (y4 : Int32) : Option ((Int32 × Mem) ⊕ ((Mem))) :=
  (ob M 12 y1).bind fun _ => (f_X12_empty M y1 y2 y3 y4).bind fun z1 =>
  (if (lg_cmp y0 z1.1) = 0 then
    some (.inl ((x3 + (6 : Int32)), z1.2))
  else
    none)
set_option maxHeartbeats 8000000 in
set_option maxRecDepth 20000 in
theorem J_L_law_1642 {l : Launch} {G : Gv} {lim : Nat × Nat} (M : Mem) (x1 : Nat) (x2 : Nat) (x3 : Int32) (y0 : Int64) (y1 : Nat) (y2 : Int32) (y3 : Int32) (y4 : Int32) (K : (Int32 × Mem) ⊕ ((Mem)) → Option (Option Value × Mem)) (kk1 : ∀ (s3 : Int32) (s_ : Mem), SimR l G Y_L_law lim (K (.inl (s3, s_))) 18 [some (.inr (.inr 4000)), some (.inr (.inr x1)), some (.inr (.inr x2)), some (.inl s3)] [] s_) (kk2_0 : ∀ (s_ : Mem), SimR l G Y_L_law lim (K (.inr s_)) 1851 [none, none, none, none] [] s_) : Sim l G Y_L_law lim (f_L_law_J1642 lim G.2.2.2.2 M x1 x2 x3 y0 y1 y2 y3 y4) K 1642 [some (.inr (.inr 4000)), some (.inr (.inr x1)), some (.inr (.inr x2)), some (.inl x3)] [.inl y4, .inl y3, .inl y2, .inr (.inr y1), .inr (.inl y0)] M := by
  unfold f_L_law_J1642
  refine s_cV (Z := Y_X12_empty) (c := 12) (vs := [.inl y2, .inl y3, .inl y4]) (st := [.inr (.inl y0)]) (rO := fun z => some (.inr (.inl z.1))) (mO := fun z => z.2) zk_X12_empty zi_X12_empty q1910 rfl ⟨by decide, by decide⟩ ⟨rfl, rfl⟩ rfl rfl (Nat.le_of_ble_eq_true rfl) (by decide +kernel) (fun z hz => c_X12_empty hz) (fun z1 => ?_)
  change Sim l G Y_L_law lim _ _ 1645 [some (.inr (.inr 4000)), some (.inr (.inr x1)), some (.inr (.inr x2)), some (.inl x3)] [.inr (.inl z1.1), .inr (.inl y0)] z1.2
  refine s_run (b := [(.lcmp, 1)]) 1646 [some (.inr (.inr 4000)), some (.inr (.inr x1)), some (.inr (.inr x2)), some (.inl x3)] [.inl (lg_cmp y0 z1.1)] (by decide +kernel) rfl ?_
  refine s_if_eq (tgt := 1845) (off := 199) (by decide +kernel) (by decide) (fun h2 => ?_) (fun h2 => ?_)
  · skip
    refine s_run (b := [(.iinc 3 6, 3), (.goto (-1830), 3)]) 18 [some (.inr (.inr 4000)), some (.inr (.inr x1)), some (.inr (.inr x2)), some (.inl (x3 + (6 : Int32)))] [] (by decide +kernel) rfl ?_
    exact s_lsub (ls' := [some (.inr (.inr 4000)), some (.inr (.inr x1)), some (.inr (.inr x2)), some (.inl (x3 + (6 : Int32)))]) ⟨rfl, ⟨rfl, ⟨rfl, ⟨rfl, trivial⟩⟩⟩⟩ (kk1 (x3 + (6 : Int32)) z1.2)
  · skip
    exact s_none
def f_L_law_J1615 (lim : Nat × Nat) (X : List Int32) (M : Mem) (x1 : Nat) (x2 : Nat) (x3 : Int32) (y0 : Nat) (y1 : Int32) (y2 : Int32) (y3 : Int32) : Option ((Int32 × Mem) ⊕ ((Mem))) :=
  (ob M 11 y0).bind fun _ => (f_X11_empty M y0 y1 y2 y3).bind fun z1 =>
  (scI X (x3 + (1 : Int32))).bind fun v2 =>
  (scI X (x3 + (2 : Int32))).bind fun v3 =>
  (scI X (x3 + (3 : Int32))).bind fun v4 =>
  (if v4 = 0 then
    f_L_law_J1642 lim X z1.2 x1 x2 x3 z1.1 x2 v2 v3 (0 : Int32)
  else
    f_L_law_J1642 lim X z1.2 x1 x2 x3 z1.1 x2 v2 v3 (1 : Int32))
set_option maxHeartbeats 8000000 in
set_option maxRecDepth 20000 in
theorem J_L_law_1615 {l : Launch} {G : Gv} {lim : Nat × Nat} (M : Mem) (x1 : Nat) (x2 : Nat) (x3 : Int32) (y0 : Nat) (y1 : Int32) (y2 : Int32) (y3 : Int32) (K : (Int32 × Mem) ⊕ ((Mem)) → Option (Option Value × Mem)) (kk1 : ∀ (s3 : Int32) (s_ : Mem), SimR l G Y_L_law lim (K (.inl (s3, s_))) 18 [some (.inr (.inr 4000)), some (.inr (.inr x1)), some (.inr (.inr x2)), some (.inl s3)] [] s_) (kk2_0 : ∀ (s_ : Mem), SimR l G Y_L_law lim (K (.inr s_)) 1851 [none, none, none, none] [] s_) : Sim l G Y_L_law lim (f_L_law_J1615 lim G.2.2.2.2 M x1 x2 x3 y0 y1 y2 y3) K 1615 [some (.inr (.inr 4000)), some (.inr (.inr x1)), some (.inr (.inr x2)), some (.inl x3)] [.inl y3, .inl y2, .inl y1, .inr (.inr y0)] M := by
  unfold f_L_law_J1615
  refine s_cV (Z := Y_X11_empty) (c := 11) (vs := [.inl y1, .inl y2, .inl y3]) (st := []) (rO := fun z => some (.inr (.inl z.1))) (mO := fun z => z.2) zk_X11_empty zi_X11_empty q1264 rfl ⟨by decide, by decide⟩ ⟨rfl, rfl⟩ rfl rfl (Nat.le_of_ble_eq_true rfl) (by decide +kernel) (fun z hz => c_X11_empty hz) (fun z1 => ?_)
  change Sim l G Y_L_law lim _ _ 1618 [some (.inr (.inr 4000)), some (.inr (.inr x1)), some (.inr (.inr x2)), some (.inl x3)] [.inr (.inl z1.1)] z1.2
  refine s_run (b := [(.aload_n 2, 1), (.aload_n 0, 1), (.iload_n 3, 1), (.iconst 1, 1), (.iadd, 1)]) 1623 [some (.inr (.inr 4000)), some (.inr (.inr x1)), some (.inr (.inr x2)), some (.inl x3)] [.inl (x3 + (1 : Int32)), .inr (.inr 4000), .inr (.inr x2), .inr (.inl z1.1)] (by decide +kernel) rfl ?_
  refine s_sc (by decide +kernel) (fun v2 => ?_)
  refine s_run (b := [(.aload_n 0, 1), (.iload_n 3, 1), (.iconst 2, 1), (.iadd, 1)]) 1628 [some (.inr (.inr 4000)), some (.inr (.inr x1)), some (.inr (.inr x2)), some (.inl x3)] [.inl (x3 + (2 : Int32)), .inr (.inr 4000), .inl v2, .inr (.inr x2), .inr (.inl z1.1)] (by decide +kernel) rfl ?_
  refine s_sc (by decide +kernel) (fun v3 => ?_)
  refine s_run (b := [(.aload_n 0, 1), (.iload_n 3, 1), (.iconst 3, 1), (.iadd, 1)]) 1633 [some (.inr (.inr 4000)), some (.inr (.inr x1)), some (.inr (.inr x2)), some (.inl x3)] [.inl (x3 + (3 : Int32)), .inr (.inr 4000), .inl v3, .inl v2, .inr (.inr x2), .inr (.inl z1.1)] (by decide +kernel) rfl ?_
  refine s_sc (by decide +kernel) (fun v4 => ?_)
  refine s_if_eq (tgt := 1641) (off := 7) (by decide +kernel) (by decide) (fun h5 => ?_) (fun h5 => ?_)
  · skip
    refine s_run (b := [(.iconst 0, 1)]) 1642 [some (.inr (.inr 4000)), some (.inr (.inr x1)), some (.inr (.inr x2)), some (.inl x3)] [.inl (0 : Int32), .inl v3, .inl v2, .inr (.inr x2), .inr (.inl z1.1)] (by decide +kernel) rfl ?_
    exact s_lsub (ls' := [some (.inr (.inr 4000)), some (.inr (.inr x1)), some (.inr (.inr x2)), some (.inl x3)]) ⟨rfl, ⟨rfl, ⟨rfl, ⟨rfl, trivial⟩⟩⟩⟩ (J_L_law_1642 z1.2 x1 x2 x3 z1.1 x2 v2 v3 (0 : Int32) K kk1 kk2_0)
  · skip
    refine s_run (b := [(.iconst 1, 1), (.goto 4, 3)]) 1642 [some (.inr (.inr 4000)), some (.inr (.inr x1)), some (.inr (.inr x2)), some (.inl x3)] [.inl (1 : Int32), .inl v3, .inl v2, .inr (.inr x2), .inr (.inl z1.1)] (by decide +kernel) rfl ?_
    exact s_lsub (ls' := [some (.inr (.inr 4000)), some (.inr (.inr x1)), some (.inr (.inr x2)), some (.inl x3)]) ⟨rfl, ⟨rfl, ⟨rfl, ⟨rfl, trivial⟩⟩⟩⟩ (J_L_law_1642 z1.2 x1 x2 x3 z1.1 x2 v2 v3 (1 : Int32) K kk1 kk2_0)
def f_L_law_J1591 (lim : Nat × Nat) (X : List Int32) (M : Mem) (x1 : Nat) (x2 : Nat) (x3 : Int32)  : Option ((Int32 × Mem) ⊕ ((Mem))) :=
  (scI X (x3 + (1 : Int32))).bind fun v1 =>
  (scI X (x3 + (2 : Int32))).bind fun v2 =>
  (scI X (x3 + (3 : Int32))).bind fun v3 =>
  (if v3 = 0 then
    f_L_law_J1615 lim X M x1 x2 x3 x1 v1 v2 (0 : Int32)
  else
    f_L_law_J1615 lim X M x1 x2 x3 x1 v1 v2 (1 : Int32))
set_option maxHeartbeats 8000000 in
set_option maxRecDepth 20000 in
theorem J_L_law_1591 {l : Launch} {G : Gv} {lim : Nat × Nat} (M : Mem) (x1 : Nat) (x2 : Nat) (x3 : Int32)  (K : (Int32 × Mem) ⊕ ((Mem)) → Option (Option Value × Mem)) (kk1 : ∀ (s3 : Int32) (s_ : Mem), SimR l G Y_L_law lim (K (.inl (s3, s_))) 18 [some (.inr (.inr 4000)), some (.inr (.inr x1)), some (.inr (.inr x2)), some (.inl s3)] [] s_) (kk2_0 : ∀ (s_ : Mem), SimR l G Y_L_law lim (K (.inr s_)) 1851 [none, none, none, none] [] s_) : Sim l G Y_L_law lim (f_L_law_J1591 lim G.2.2.2.2 M x1 x2 x3) K 1591 [some (.inr (.inr 4000)), some (.inr (.inr x1)), some (.inr (.inr x2)), some (.inl x3)] [] M := by
  unfold f_L_law_J1591
  refine s_run (b := [(.aload_n 1, 1), (.aload_n 0, 1), (.iload_n 3, 1), (.iconst 1, 1), (.iadd, 1)]) 1596 [some (.inr (.inr 4000)), some (.inr (.inr x1)), some (.inr (.inr x2)), some (.inl x3)] [.inl (x3 + (1 : Int32)), .inr (.inr 4000), .inr (.inr x1)] (by decide +kernel) rfl ?_
  refine s_sc (by decide +kernel) (fun v1 => ?_)
  refine s_run (b := [(.aload_n 0, 1), (.iload_n 3, 1), (.iconst 2, 1), (.iadd, 1)]) 1601 [some (.inr (.inr 4000)), some (.inr (.inr x1)), some (.inr (.inr x2)), some (.inl x3)] [.inl (x3 + (2 : Int32)), .inr (.inr 4000), .inl v1, .inr (.inr x1)] (by decide +kernel) rfl ?_
  refine s_sc (by decide +kernel) (fun v2 => ?_)
  refine s_run (b := [(.aload_n 0, 1), (.iload_n 3, 1), (.iconst 3, 1), (.iadd, 1)]) 1606 [some (.inr (.inr 4000)), some (.inr (.inr x1)), some (.inr (.inr x2)), some (.inl x3)] [.inl (x3 + (3 : Int32)), .inr (.inr 4000), .inl v2, .inl v1, .inr (.inr x1)] (by decide +kernel) rfl ?_
  refine s_sc (by decide +kernel) (fun v3 => ?_)
  refine s_if_eq (tgt := 1614) (off := 7) (by decide +kernel) (by decide) (fun h4 => ?_) (fun h4 => ?_)
  · skip
    refine s_run (b := [(.iconst 0, 1)]) 1615 [some (.inr (.inr 4000)), some (.inr (.inr x1)), some (.inr (.inr x2)), some (.inl x3)] [.inl (0 : Int32), .inl v2, .inl v1, .inr (.inr x1)] (by decide +kernel) rfl ?_
    exact s_lsub (ls' := [some (.inr (.inr 4000)), some (.inr (.inr x1)), some (.inr (.inr x2)), some (.inl x3)]) ⟨rfl, ⟨rfl, ⟨rfl, ⟨rfl, trivial⟩⟩⟩⟩ (J_L_law_1615 M x1 x2 x3 x1 v1 v2 (0 : Int32) K kk1 kk2_0)
  · skip
    refine s_run (b := [(.iconst 1, 1), (.goto 4, 3)]) 1615 [some (.inr (.inr 4000)), some (.inr (.inr x1)), some (.inr (.inr x2)), some (.inl x3)] [.inl (1 : Int32), .inl v2, .inl v1, .inr (.inr x1)] (by decide +kernel) rfl ?_
    exact s_lsub (ls' := [some (.inr (.inr 4000)), some (.inr (.inr x1)), some (.inr (.inr x2)), some (.inl x3)]) ⟨rfl, ⟨rfl, ⟨rfl, ⟨rfl, trivial⟩⟩⟩⟩ (J_L_law_1615 M x1 x2 x3 x1 v1 v2 (1 : Int32) K kk1 kk2_0)
def f_L_law_J1651 (lim : Nat × Nat) (X : List Int32) (M : Mem) (x1 : Nat) (x2 : Nat) (x3 : Int32)  : Option ((Int32 × Mem) ⊕ ((Mem))) :=
  (scI X (x3 + (1 : Int32))).bind fun v1 =>
  (ob M 11 x1).bind fun _ => (f_X11_best M x1 v1).bind fun z2 =>
  (scI X (x3 + (1 : Int32))).bind fun v3 =>
  (ob z2.2 12 x2).bind fun _ => (f_X12_best z2.2 x2 v3).bind fun z4 =>
  (if z2.1 = z4.1 then
    some (.inl ((x3 + (6 : Int32)), z4.2))
  else
    none)
set_option maxHeartbeats 8000000 in
set_option maxRecDepth 20000 in
theorem J_L_law_1651 {l : Launch} {G : Gv} {lim : Nat × Nat} (M : Mem) (x1 : Nat) (x2 : Nat) (x3 : Int32)  (K : (Int32 × Mem) ⊕ ((Mem)) → Option (Option Value × Mem)) (kk1 : ∀ (s3 : Int32) (s_ : Mem), SimR l G Y_L_law lim (K (.inl (s3, s_))) 18 [some (.inr (.inr 4000)), some (.inr (.inr x1)), some (.inr (.inr x2)), some (.inl s3)] [] s_) (kk2_0 : ∀ (s_ : Mem), SimR l G Y_L_law lim (K (.inr s_)) 1851 [none, none, none, none] [] s_) : Sim l G Y_L_law lim (f_L_law_J1651 lim G.2.2.2.2 M x1 x2 x3) K 1651 [some (.inr (.inr 4000)), some (.inr (.inr x1)), some (.inr (.inr x2)), some (.inl x3)] [] M := by
  unfold f_L_law_J1651
  refine s_run (b := [(.aload_n 1, 1), (.aload_n 0, 1), (.iload_n 3, 1), (.iconst 1, 1), (.iadd, 1)]) 1656 [some (.inr (.inr 4000)), some (.inr (.inr x1)), some (.inr (.inr x2)), some (.inl x3)] [.inl (x3 + (1 : Int32)), .inr (.inr 4000), .inr (.inr x1)] (by decide +kernel) rfl ?_
  refine s_sc (by decide +kernel) (fun v1 => ?_)
  refine s_cV (Z := Y_X11_best) (c := 11) (vs := [.inl v1]) (st := []) (rO := fun z => some (.inl z.1)) (mO := fun z => z.2) zk_X11_best zi_X11_best q1273 rfl ⟨by decide, by decide⟩ ⟨rfl, rfl⟩ rfl rfl (Nat.le_of_ble_eq_true rfl) (by decide +kernel) (fun z hz => c_X11_best hz) (fun z2 => ?_)
  change Sim l G Y_L_law lim _ _ 1660 [some (.inr (.inr 4000)), some (.inr (.inr x1)), some (.inr (.inr x2)), some (.inl x3)] [.inl z2.1] z2.2
  refine s_run (b := [(.aload_n 2, 1), (.aload_n 0, 1), (.iload_n 3, 1), (.iconst 1, 1), (.iadd, 1)]) 1665 [some (.inr (.inr 4000)), some (.inr (.inr x1)), some (.inr (.inr x2)), some (.inl x3)] [.inl (x3 + (1 : Int32)), .inr (.inr 4000), .inr (.inr x2), .inl z2.1] (by decide +kernel) rfl ?_
  refine s_sc (by decide +kernel) (fun v3 => ?_)
  refine s_cV (Z := Y_X12_best) (c := 12) (vs := [.inl v3]) (st := [.inl z2.1]) (rO := fun z => some (.inl z.1)) (mO := fun z => z.2) zk_X12_best zi_X12_best q1807 rfl ⟨by decide, by decide⟩ ⟨rfl, rfl⟩ rfl rfl (Nat.le_of_ble_eq_true rfl) (by decide +kernel) (fun z hz => c_X12_best hz) (fun z4 => ?_)
  change Sim l G Y_L_law lim _ _ 1669 [some (.inr (.inr 4000)), some (.inr (.inr x1)), some (.inr (.inr x2)), some (.inl x3)] [.inl z4.1, .inl z2.1] z4.2
  refine s_ic_eq (tgt := 1845) (off := 176) (by decide +kernel) (by decide) (fun h5 => ?_) (fun h5 => ?_)
  · skip
    refine s_run (b := [(.iinc 3 6, 3), (.goto (-1830), 3)]) 18 [some (.inr (.inr 4000)), some (.inr (.inr x1)), some (.inr (.inr x2)), some (.inl (x3 + (6 : Int32)))] [] (by decide +kernel) rfl ?_
    exact s_lsub (ls' := [some (.inr (.inr 4000)), some (.inr (.inr x1)), some (.inr (.inr x2)), some (.inl (x3 + (6 : Int32)))]) ⟨rfl, ⟨rfl, ⟨rfl, ⟨rfl, trivial⟩⟩⟩⟩ (kk1 (x3 + (6 : Int32)) z4.2)
  · skip
    exact s_none
def f_L_law_J1674 (lim : Nat × Nat) (X : List Int32) (M : Mem) (x1 : Nat) (x2 : Nat) (x3 : Int32)  : Option ((Int32 × Mem) ⊕ ((Mem))) :=
  (scI X (x3 + (1 : Int32))).bind fun v1 =>
  (scI X (x3 + (2 : Int32))).bind fun v2 =>
  (scI X (x3 + (3 : Int32))).bind fun v3 =>
  (scI X (x3 + (4 : Int32))).bind fun v4 =>
  (ob M 11 x1).bind fun _ => (f_X11_fewer M x1 v1 v2 v3 v4).bind fun z5 =>
  (scI X (x3 + (1 : Int32))).bind fun v6 =>
  (scI X (x3 + (2 : Int32))).bind fun v7 =>
  (scI X (x3 + (3 : Int32))).bind fun v8 =>
  (scI X (x3 + (4 : Int32))).bind fun v9 =>
  (ob z5.2 12 x2).bind fun _ => (f_X12_fewer z5.2 x2 v6 v7 v8 v9).bind fun z10 =>
  (if z5.1 = z10.1 then
    some (.inl ((x3 + (6 : Int32)), z10.2))
  else
    none)
set_option maxHeartbeats 8000000 in
set_option maxRecDepth 20000 in
theorem J_L_law_1674 {l : Launch} {G : Gv} {lim : Nat × Nat} (M : Mem) (x1 : Nat) (x2 : Nat) (x3 : Int32)  (K : (Int32 × Mem) ⊕ ((Mem)) → Option (Option Value × Mem)) (kk1 : ∀ (s3 : Int32) (s_ : Mem), SimR l G Y_L_law lim (K (.inl (s3, s_))) 18 [some (.inr (.inr 4000)), some (.inr (.inr x1)), some (.inr (.inr x2)), some (.inl s3)] [] s_) (kk2_0 : ∀ (s_ : Mem), SimR l G Y_L_law lim (K (.inr s_)) 1851 [none, none, none, none] [] s_) : Sim l G Y_L_law lim (f_L_law_J1674 lim G.2.2.2.2 M x1 x2 x3) K 1674 [some (.inr (.inr 4000)), some (.inr (.inr x1)), some (.inr (.inr x2)), some (.inl x3)] [] M := by
  unfold f_L_law_J1674
  refine s_run (b := [(.aload_n 1, 1), (.aload_n 0, 1), (.iload_n 3, 1), (.iconst 1, 1), (.iadd, 1)]) 1679 [some (.inr (.inr 4000)), some (.inr (.inr x1)), some (.inr (.inr x2)), some (.inl x3)] [.inl (x3 + (1 : Int32)), .inr (.inr 4000), .inr (.inr x1)] (by decide +kernel) rfl ?_
  refine s_sc (by decide +kernel) (fun v1 => ?_)
  refine s_run (b := [(.aload_n 0, 1), (.iload_n 3, 1), (.iconst 2, 1), (.iadd, 1)]) 1684 [some (.inr (.inr 4000)), some (.inr (.inr x1)), some (.inr (.inr x2)), some (.inl x3)] [.inl (x3 + (2 : Int32)), .inr (.inr 4000), .inl v1, .inr (.inr x1)] (by decide +kernel) rfl ?_
  refine s_sc (by decide +kernel) (fun v2 => ?_)
  refine s_run (b := [(.aload_n 0, 1), (.iload_n 3, 1), (.iconst 3, 1), (.iadd, 1)]) 1689 [some (.inr (.inr 4000)), some (.inr (.inr x1)), some (.inr (.inr x2)), some (.inl x3)] [.inl (x3 + (3 : Int32)), .inr (.inr 4000), .inl v2, .inl v1, .inr (.inr x1)] (by decide +kernel) rfl ?_
  refine s_sc (by decide +kernel) (fun v3 => ?_)
  refine s_run (b := [(.aload_n 0, 1), (.iload_n 3, 1), (.iconst 4, 1), (.iadd, 1)]) 1694 [some (.inr (.inr 4000)), some (.inr (.inr x1)), some (.inr (.inr x2)), some (.inl x3)] [.inl (x3 + (4 : Int32)), .inr (.inr 4000), .inl v3, .inl v2, .inl v1, .inr (.inr x1)] (by decide +kernel) rfl ?_
  refine s_sc (by decide +kernel) (fun v4 => ?_)
  refine s_cV (Z := Y_X11_fewer) (c := 11) (vs := [.inl v1, .inl v2, .inl v3, .inl v4]) (st := []) (rO := fun z => some (.inl z.1)) (mO := fun z => z.2) zk_X11_fewer zi_X11_fewer q1282 rfl ⟨by decide, by decide⟩ ⟨rfl, rfl⟩ rfl rfl (Nat.le_of_ble_eq_true rfl) (by decide +kernel) (fun z hz => c_X11_fewer hz) (fun z5 => ?_)
  change Sim l G Y_L_law lim _ _ 1698 [some (.inr (.inr 4000)), some (.inr (.inr x1)), some (.inr (.inr x2)), some (.inl x3)] [.inl z5.1] z5.2
  refine s_run (b := [(.aload_n 2, 1), (.aload_n 0, 1), (.iload_n 3, 1), (.iconst 1, 1), (.iadd, 1)]) 1703 [some (.inr (.inr 4000)), some (.inr (.inr x1)), some (.inr (.inr x2)), some (.inl x3)] [.inl (x3 + (1 : Int32)), .inr (.inr 4000), .inr (.inr x2), .inl z5.1] (by decide +kernel) rfl ?_
  refine s_sc (by decide +kernel) (fun v6 => ?_)
  refine s_run (b := [(.aload_n 0, 1), (.iload_n 3, 1), (.iconst 2, 1), (.iadd, 1)]) 1708 [some (.inr (.inr 4000)), some (.inr (.inr x1)), some (.inr (.inr x2)), some (.inl x3)] [.inl (x3 + (2 : Int32)), .inr (.inr 4000), .inl v6, .inr (.inr x2), .inl z5.1] (by decide +kernel) rfl ?_
  refine s_sc (by decide +kernel) (fun v7 => ?_)
  refine s_run (b := [(.aload_n 0, 1), (.iload_n 3, 1), (.iconst 3, 1), (.iadd, 1)]) 1713 [some (.inr (.inr 4000)), some (.inr (.inr x1)), some (.inr (.inr x2)), some (.inl x3)] [.inl (x3 + (3 : Int32)), .inr (.inr 4000), .inl v7, .inl v6, .inr (.inr x2), .inl z5.1] (by decide +kernel) rfl ?_
  refine s_sc (by decide +kernel) (fun v8 => ?_)
  refine s_run (b := [(.aload_n 0, 1), (.iload_n 3, 1), (.iconst 4, 1), (.iadd, 1)]) 1718 [some (.inr (.inr 4000)), some (.inr (.inr x1)), some (.inr (.inr x2)), some (.inl x3)] [.inl (x3 + (4 : Int32)), .inr (.inr 4000), .inl v8, .inl v7, .inl v6, .inr (.inr x2), .inl z5.1] (by decide +kernel) rfl ?_
  refine s_sc (by decide +kernel) (fun v9 => ?_)
  refine s_cV (Z := Y_X12_fewer) (c := 12) (vs := [.inl v6, .inl v7, .inl v8, .inl v9]) (st := [.inl z5.1]) (rO := fun z => some (.inl z.1)) (mO := fun z => z.2) zk_X12_fewer zi_X12_fewer q1711 rfl ⟨by decide, by decide⟩ ⟨rfl, rfl⟩ rfl rfl (Nat.le_of_ble_eq_true rfl) (by decide +kernel) (fun z hz => c_X12_fewer hz) (fun z10 => ?_)
  change Sim l G Y_L_law lim _ _ 1722 [some (.inr (.inr 4000)), some (.inr (.inr x1)), some (.inr (.inr x2)), some (.inl x3)] [.inl z10.1, .inl z5.1] z10.2
  refine s_ic_eq (tgt := 1845) (off := 123) (by decide +kernel) (by decide) (fun h11 => ?_) (fun h11 => ?_)
  · skip
    refine s_run (b := [(.iinc 3 6, 3), (.goto (-1830), 3)]) 18 [some (.inr (.inr 4000)), some (.inr (.inr x1)), some (.inr (.inr x2)), some (.inl (x3 + (6 : Int32)))] [] (by decide +kernel) rfl ?_
    exact s_lsub (ls' := [some (.inr (.inr 4000)), some (.inr (.inr x1)), some (.inr (.inr x2)), some (.inl (x3 + (6 : Int32)))]) ⟨rfl, ⟨rfl, ⟨rfl, ⟨rfl, trivial⟩⟩⟩⟩ (kk1 (x3 + (6 : Int32)) z10.2)
  · skip
    exact s_none
def f_L_law_J1768 (lim : Nat × Nat) (X : List Int32) (M : Mem) (x1 : Nat) (x2 : Nat) (x3 : Int32) (y0 : Int32) (y1 : Nat) (y2 : Int32) (y3 : Int32) : Option ((Int32 × Mem) ⊕ ((Mem))) :=
  (ob M 12 y1).bind fun _ => (f_X12_loud M y1 y2 y3).bind fun z1 =>
  (if y0 = z1.1 then
    some (.inl ((x3 + (6 : Int32)), z1.2))
  else
    none)
set_option maxHeartbeats 8000000 in
set_option maxRecDepth 20000 in
theorem J_L_law_1768 {l : Launch} {G : Gv} {lim : Nat × Nat} (M : Mem) (x1 : Nat) (x2 : Nat) (x3 : Int32) (y0 : Int32) (y1 : Nat) (y2 : Int32) (y3 : Int32) (K : (Int32 × Mem) ⊕ ((Mem)) → Option (Option Value × Mem)) (kk1 : ∀ (s3 : Int32) (s_ : Mem), SimR l G Y_L_law lim (K (.inl (s3, s_))) 18 [some (.inr (.inr 4000)), some (.inr (.inr x1)), some (.inr (.inr x2)), some (.inl s3)] [] s_) (kk2_0 : ∀ (s_ : Mem), SimR l G Y_L_law lim (K (.inr s_)) 1851 [none, none, none, none] [] s_) : Sim l G Y_L_law lim (f_L_law_J1768 lim G.2.2.2.2 M x1 x2 x3 y0 y1 y2 y3) K 1768 [some (.inr (.inr 4000)), some (.inr (.inr x1)), some (.inr (.inr x2)), some (.inl x3)] [.inl y3, .inl y2, .inr (.inr y1), .inl y0] M := by
  unfold f_L_law_J1768
  refine s_cV (Z := Y_X12_loud) (c := 12) (vs := [.inl y2, .inl y3]) (st := [.inl y0]) (rO := fun z => some (.inl z.1)) (mO := fun z => z.2) zk_X12_loud zi_X12_loud q1902 rfl ⟨by decide, by decide⟩ ⟨rfl, rfl⟩ rfl rfl (Nat.le_of_ble_eq_true rfl) (by decide +kernel) (fun z hz => c_X12_loud hz) (fun z1 => ?_)
  change Sim l G Y_L_law lim _ _ 1771 [some (.inr (.inr 4000)), some (.inr (.inr x1)), some (.inr (.inr x2)), some (.inl x3)] [.inl z1.1, .inl y0] z1.2
  refine s_ic_eq (tgt := 1845) (off := 74) (by decide +kernel) (by decide) (fun h2 => ?_) (fun h2 => ?_)
  · skip
    refine s_run (b := [(.iinc 3 6, 3), (.goto (-1830), 3)]) 18 [some (.inr (.inr 4000)), some (.inr (.inr x1)), some (.inr (.inr x2)), some (.inl (x3 + (6 : Int32)))] [] (by decide +kernel) rfl ?_
    exact s_lsub (ls' := [some (.inr (.inr 4000)), some (.inr (.inr x1)), some (.inr (.inr x2)), some (.inl (x3 + (6 : Int32)))]) ⟨rfl, ⟨rfl, ⟨rfl, ⟨rfl, trivial⟩⟩⟩⟩ (kk1 (x3 + (6 : Int32)) z1.2)
  · skip
    exact s_none
def f_L_law_J1746 (lim : Nat × Nat) (X : List Int32) (M : Mem) (x1 : Nat) (x2 : Nat) (x3 : Int32) (y0 : Nat) (y1 : Int32) (y2 : Int32) : Option ((Int32 × Mem) ⊕ ((Mem))) :=
  (ob M 11 y0).bind fun _ => (f_X11_loud M y0 y1 y2).bind fun v1 =>
  (scI X (x3 + (1 : Int32))).bind fun v2 =>
  (scI X (x3 + (2 : Int32))).bind fun v3 =>
  (if v3 = 0 then
    f_L_law_J1768 lim X M x1 x2 x3 v1 x2 v2 (0 : Int32)
  else
    f_L_law_J1768 lim X M x1 x2 x3 v1 x2 v2 (1 : Int32))
set_option maxHeartbeats 8000000 in
set_option maxRecDepth 20000 in
theorem J_L_law_1746 {l : Launch} {G : Gv} {lim : Nat × Nat} (M : Mem) (x1 : Nat) (x2 : Nat) (x3 : Int32) (y0 : Nat) (y1 : Int32) (y2 : Int32) (K : (Int32 × Mem) ⊕ ((Mem)) → Option (Option Value × Mem)) (kk1 : ∀ (s3 : Int32) (s_ : Mem), SimR l G Y_L_law lim (K (.inl (s3, s_))) 18 [some (.inr (.inr 4000)), some (.inr (.inr x1)), some (.inr (.inr x2)), some (.inl s3)] [] s_) (kk2_0 : ∀ (s_ : Mem), SimR l G Y_L_law lim (K (.inr s_)) 1851 [none, none, none, none] [] s_) : Sim l G Y_L_law lim (f_L_law_J1746 lim G.2.2.2.2 M x1 x2 x3 y0 y1 y2) K 1746 [some (.inr (.inr 4000)), some (.inr (.inr x1)), some (.inr (.inr x2)), some (.inl x3)] [.inl y2, .inl y1, .inr (.inr y0)] M := by
  unfold f_L_law_J1746
  refine s_cV (Z := Y_X11_loud) (c := 11) (vs := [.inl y1, .inl y2]) (st := []) (rO := fun z => some (.inl z)) (mO := fun _ => M) zk_X11_loud zi_X11_loud q1286 rfl ⟨by decide, by decide⟩ ⟨rfl, rfl⟩ rfl rfl (Nat.le_of_ble_eq_true rfl) (by decide +kernel) (fun z hz => c_X11_loud hz) (fun v1 => ?_)
  change Sim l G Y_L_law lim _ _ 1749 [some (.inr (.inr 4000)), some (.inr (.inr x1)), some (.inr (.inr x2)), some (.inl x3)] [.inl v1] M
  refine s_run (b := [(.aload_n 2, 1), (.aload_n 0, 1), (.iload_n 3, 1), (.iconst 1, 1), (.iadd, 1)]) 1754 [some (.inr (.inr 4000)), some (.inr (.inr x1)), some (.inr (.inr x2)), some (.inl x3)] [.inl (x3 + (1 : Int32)), .inr (.inr 4000), .inr (.inr x2), .inl v1] (by decide +kernel) rfl ?_
  refine s_sc (by decide +kernel) (fun v2 => ?_)
  refine s_run (b := [(.aload_n 0, 1), (.iload_n 3, 1), (.iconst 2, 1), (.iadd, 1)]) 1759 [some (.inr (.inr 4000)), some (.inr (.inr x1)), some (.inr (.inr x2)), some (.inl x3)] [.inl (x3 + (2 : Int32)), .inr (.inr 4000), .inl v2, .inr (.inr x2), .inl v1] (by decide +kernel) rfl ?_
  refine s_sc (by decide +kernel) (fun v3 => ?_)
  refine s_if_eq (tgt := 1767) (off := 7) (by decide +kernel) (by decide) (fun h4 => ?_) (fun h4 => ?_)
  · skip
    refine s_run (b := [(.iconst 0, 1)]) 1768 [some (.inr (.inr 4000)), some (.inr (.inr x1)), some (.inr (.inr x2)), some (.inl x3)] [.inl (0 : Int32), .inl v2, .inr (.inr x2), .inl v1] (by decide +kernel) rfl ?_
    exact s_lsub (ls' := [some (.inr (.inr 4000)), some (.inr (.inr x1)), some (.inr (.inr x2)), some (.inl x3)]) ⟨rfl, ⟨rfl, ⟨rfl, ⟨rfl, trivial⟩⟩⟩⟩ (J_L_law_1768 M x1 x2 x3 v1 x2 v2 (0 : Int32) K kk1 kk2_0)
  · skip
    refine s_run (b := [(.iconst 1, 1), (.goto 4, 3)]) 1768 [some (.inr (.inr 4000)), some (.inr (.inr x1)), some (.inr (.inr x2)), some (.inl x3)] [.inl (1 : Int32), .inl v2, .inr (.inr x2), .inl v1] (by decide +kernel) rfl ?_
    exact s_lsub (ls' := [some (.inr (.inr 4000)), some (.inr (.inr x1)), some (.inr (.inr x2)), some (.inl x3)]) ⟨rfl, ⟨rfl, ⟨rfl, ⟨rfl, trivial⟩⟩⟩⟩ (J_L_law_1768 M x1 x2 x3 v1 x2 v2 (1 : Int32) K kk1 kk2_0)
def f_L_law_J1727 (lim : Nat × Nat) (X : List Int32) (M : Mem) (x1 : Nat) (x2 : Nat) (x3 : Int32)  : Option ((Int32 × Mem) ⊕ ((Mem))) :=
  (scI X (x3 + (1 : Int32))).bind fun v1 =>
  (scI X (x3 + (2 : Int32))).bind fun v2 =>
  (if v2 = 0 then
    f_L_law_J1746 lim X M x1 x2 x3 x1 v1 (0 : Int32)
  else
    f_L_law_J1746 lim X M x1 x2 x3 x1 v1 (1 : Int32))
set_option maxHeartbeats 8000000 in
set_option maxRecDepth 20000 in
theorem J_L_law_1727 {l : Launch} {G : Gv} {lim : Nat × Nat} (M : Mem) (x1 : Nat) (x2 : Nat) (x3 : Int32)  (K : (Int32 × Mem) ⊕ ((Mem)) → Option (Option Value × Mem)) (kk1 : ∀ (s3 : Int32) (s_ : Mem), SimR l G Y_L_law lim (K (.inl (s3, s_))) 18 [some (.inr (.inr 4000)), some (.inr (.inr x1)), some (.inr (.inr x2)), some (.inl s3)] [] s_) (kk2_0 : ∀ (s_ : Mem), SimR l G Y_L_law lim (K (.inr s_)) 1851 [none, none, none, none] [] s_) : Sim l G Y_L_law lim (f_L_law_J1727 lim G.2.2.2.2 M x1 x2 x3) K 1727 [some (.inr (.inr 4000)), some (.inr (.inr x1)), some (.inr (.inr x2)), some (.inl x3)] [] M := by
  unfold f_L_law_J1727
  refine s_run (b := [(.aload_n 1, 1), (.aload_n 0, 1), (.iload_n 3, 1), (.iconst 1, 1), (.iadd, 1)]) 1732 [some (.inr (.inr 4000)), some (.inr (.inr x1)), some (.inr (.inr x2)), some (.inl x3)] [.inl (x3 + (1 : Int32)), .inr (.inr 4000), .inr (.inr x1)] (by decide +kernel) rfl ?_
  refine s_sc (by decide +kernel) (fun v1 => ?_)
  refine s_run (b := [(.aload_n 0, 1), (.iload_n 3, 1), (.iconst 2, 1), (.iadd, 1)]) 1737 [some (.inr (.inr 4000)), some (.inr (.inr x1)), some (.inr (.inr x2)), some (.inl x3)] [.inl (x3 + (2 : Int32)), .inr (.inr 4000), .inl v1, .inr (.inr x1)] (by decide +kernel) rfl ?_
  refine s_sc (by decide +kernel) (fun v2 => ?_)
  refine s_if_eq (tgt := 1745) (off := 7) (by decide +kernel) (by decide) (fun h3 => ?_) (fun h3 => ?_)
  · skip
    refine s_run (b := [(.iconst 0, 1)]) 1746 [some (.inr (.inr 4000)), some (.inr (.inr x1)), some (.inr (.inr x2)), some (.inl x3)] [.inl (0 : Int32), .inl v1, .inr (.inr x1)] (by decide +kernel) rfl ?_
    exact s_lsub (ls' := [some (.inr (.inr 4000)), some (.inr (.inr x1)), some (.inr (.inr x2)), some (.inl x3)]) ⟨rfl, ⟨rfl, ⟨rfl, ⟨rfl, trivial⟩⟩⟩⟩ (J_L_law_1746 M x1 x2 x3 x1 v1 (0 : Int32) K kk1 kk2_0)
  · skip
    refine s_run (b := [(.iconst 1, 1), (.goto 4, 3)]) 1746 [some (.inr (.inr 4000)), some (.inr (.inr x1)), some (.inr (.inr x2)), some (.inl x3)] [.inl (1 : Int32), .inl v1, .inr (.inr x1)] (by decide +kernel) rfl ?_
    exact s_lsub (ls' := [some (.inr (.inr 4000)), some (.inr (.inr x1)), some (.inr (.inr x2)), some (.inl x3)]) ⟨rfl, ⟨rfl, ⟨rfl, ⟨rfl, trivial⟩⟩⟩⟩ (J_L_law_1746 M x1 x2 x3 x1 v1 (1 : Int32) K kk1 kk2_0)
def f_L_law_J1776 (lim : Nat × Nat) (X : List Int32) (M : Mem) (x1 : Nat) (x2 : Nat) (x3 : Int32)  : Option ((Int32 × Mem) ⊕ ((Mem))) :=
  (scI X (x3 + (1 : Int32))).bind fun v1 =>
  (ob M 11 x1).bind fun _ => (f_X11_count M x1 v1).bind fun v2 =>
  (scI X (x3 + (1 : Int32))).bind fun v3 =>
  (ob M 12 x2).bind fun _ => (f_X12_count M x2 v3).bind fun v4 =>
  (if v2 = v4 then
    some (.inl ((x3 + (6 : Int32)), M))
  else
    none)
set_option maxHeartbeats 8000000 in
set_option maxRecDepth 20000 in
theorem J_L_law_1776 {l : Launch} {G : Gv} {lim : Nat × Nat} (M : Mem) (x1 : Nat) (x2 : Nat) (x3 : Int32)  (K : (Int32 × Mem) ⊕ ((Mem)) → Option (Option Value × Mem)) (kk1 : ∀ (s3 : Int32) (s_ : Mem), SimR l G Y_L_law lim (K (.inl (s3, s_))) 18 [some (.inr (.inr 4000)), some (.inr (.inr x1)), some (.inr (.inr x2)), some (.inl s3)] [] s_) (kk2_0 : ∀ (s_ : Mem), SimR l G Y_L_law lim (K (.inr s_)) 1851 [none, none, none, none] [] s_) : Sim l G Y_L_law lim (f_L_law_J1776 lim G.2.2.2.2 M x1 x2 x3) K 1776 [some (.inr (.inr 4000)), some (.inr (.inr x1)), some (.inr (.inr x2)), some (.inl x3)] [] M := by
  unfold f_L_law_J1776
  refine s_run (b := [(.aload_n 1, 1), (.aload_n 0, 1), (.iload_n 3, 1), (.iconst 1, 1), (.iadd, 1)]) 1781 [some (.inr (.inr 4000)), some (.inr (.inr x1)), some (.inr (.inr x2)), some (.inl x3)] [.inl (x3 + (1 : Int32)), .inr (.inr 4000), .inr (.inr x1)] (by decide +kernel) rfl ?_
  refine s_sc (by decide +kernel) (fun v1 => ?_)
  refine s_cV (Z := Y_X11_count) (c := 11) (vs := [.inl v1]) (st := []) (rO := fun z => some (.inl z)) (mO := fun _ => M) zk_X11_count zi_X11_count q1294 rfl ⟨by decide, by decide⟩ ⟨rfl, rfl⟩ rfl rfl (Nat.le_of_ble_eq_true rfl) (by decide +kernel) (fun z hz => c_X11_count hz) (fun v2 => ?_)
  change Sim l G Y_L_law lim _ _ 1785 [some (.inr (.inr 4000)), some (.inr (.inr x1)), some (.inr (.inr x2)), some (.inl x3)] [.inl v2] M
  refine s_run (b := [(.aload_n 2, 1), (.aload_n 0, 1), (.iload_n 3, 1), (.iconst 1, 1), (.iadd, 1)]) 1790 [some (.inr (.inr 4000)), some (.inr (.inr x1)), some (.inr (.inr x2)), some (.inl x3)] [.inl (x3 + (1 : Int32)), .inr (.inr 4000), .inr (.inr x2), .inl v2] (by decide +kernel) rfl ?_
  refine s_sc (by decide +kernel) (fun v3 => ?_)
  refine s_cV (Z := Y_X12_count) (c := 12) (vs := [.inl v3]) (st := [.inl v2]) (rO := fun z => some (.inl z)) (mO := fun _ => M) zk_X12_count zi_X12_count q1927 rfl ⟨by decide, by decide⟩ ⟨rfl, rfl⟩ rfl rfl (Nat.le_of_ble_eq_true rfl) (by decide +kernel) (fun z hz => c_X12_count hz) (fun v4 => ?_)
  change Sim l G Y_L_law lim _ _ 1794 [some (.inr (.inr 4000)), some (.inr (.inr x1)), some (.inr (.inr x2)), some (.inl x3)] [.inl v4, .inl v2] M
  refine s_ic_eq (tgt := 1845) (off := 51) (by decide +kernel) (by decide) (fun h5 => ?_) (fun h5 => ?_)
  · skip
    refine s_run (b := [(.iinc 3 6, 3), (.goto (-1830), 3)]) 18 [some (.inr (.inr 4000)), some (.inr (.inr x1)), some (.inr (.inr x2)), some (.inl (x3 + (6 : Int32)))] [] (by decide +kernel) rfl ?_
    exact s_lsub (ls' := [some (.inr (.inr 4000)), some (.inr (.inr x1)), some (.inr (.inr x2)), some (.inl (x3 + (6 : Int32)))]) ⟨rfl, ⟨rfl, ⟨rfl, ⟨rfl, trivial⟩⟩⟩⟩ (kk1 (x3 + (6 : Int32)) M)
  · skip
    exact s_none
def f_L_law_J1799 (lim : Nat × Nat) (X : List Int32) (M : Mem) (x1 : Nat) (x2 : Nat) (x3 : Int32)  : Option ((Int32 × Mem) ⊕ ((Mem))) :=
  (scI X (x3 + (1 : Int32))).bind fun v1 =>
  (ob M 11 x1).bind fun _ => (f_X11_image M x1 v1).bind fun z2 =>
  (scI X (x3 + (1 : Int32))).bind fun v3 =>
  (ob z2.2 12 x2).bind fun _ => (f_X12_image z2.2 x2 v3).bind fun z4 =>
  (if z2.1 = z4.1 then
    some (.inl ((x3 + (6 : Int32)), z4.2))
  else
    none)
set_option maxHeartbeats 8000000 in
set_option maxRecDepth 20000 in
theorem J_L_law_1799 {l : Launch} {G : Gv} {lim : Nat × Nat} (M : Mem) (x1 : Nat) (x2 : Nat) (x3 : Int32)  (K : (Int32 × Mem) ⊕ ((Mem)) → Option (Option Value × Mem)) (kk1 : ∀ (s3 : Int32) (s_ : Mem), SimR l G Y_L_law lim (K (.inl (s3, s_))) 18 [some (.inr (.inr 4000)), some (.inr (.inr x1)), some (.inr (.inr x2)), some (.inl s3)] [] s_) (kk2_0 : ∀ (s_ : Mem), SimR l G Y_L_law lim (K (.inr s_)) 1851 [none, none, none, none] [] s_) : Sim l G Y_L_law lim (f_L_law_J1799 lim G.2.2.2.2 M x1 x2 x3) K 1799 [some (.inr (.inr 4000)), some (.inr (.inr x1)), some (.inr (.inr x2)), some (.inl x3)] [] M := by
  unfold f_L_law_J1799
  refine s_run (b := [(.aload_n 1, 1), (.aload_n 0, 1), (.iload_n 3, 1), (.iconst 1, 1), (.iadd, 1)]) 1804 [some (.inr (.inr 4000)), some (.inr (.inr x1)), some (.inr (.inr x2)), some (.inl x3)] [.inl (x3 + (1 : Int32)), .inr (.inr 4000), .inr (.inr x1)] (by decide +kernel) rfl ?_
  refine s_sc (by decide +kernel) (fun v1 => ?_)
  refine s_cV (Z := Y_X11_image) (c := 11) (vs := [.inl v1]) (st := []) (rO := fun z => some (.inl z.1)) (mO := fun z => z.2) zk_X11_image zi_X11_image q1298 rfl ⟨by decide, by decide⟩ ⟨rfl, rfl⟩ rfl rfl (Nat.le_of_ble_eq_true rfl) (by decide +kernel) (fun z hz => c_X11_image hz) (fun z2 => ?_)
  change Sim l G Y_L_law lim _ _ 1808 [some (.inr (.inr 4000)), some (.inr (.inr x1)), some (.inr (.inr x2)), some (.inl x3)] [.inl z2.1] z2.2
  refine s_run (b := [(.aload_n 2, 1), (.aload_n 0, 1), (.iload_n 3, 1), (.iconst 1, 1), (.iadd, 1)]) 1813 [some (.inr (.inr 4000)), some (.inr (.inr x1)), some (.inr (.inr x2)), some (.inl x3)] [.inl (x3 + (1 : Int32)), .inr (.inr 4000), .inr (.inr x2), .inl z2.1] (by decide +kernel) rfl ?_
  refine s_sc (by decide +kernel) (fun v3 => ?_)
  refine s_cV (Z := Y_X12_image) (c := 12) (vs := [.inl v3]) (st := [.inl z2.1]) (rO := fun z => some (.inl z.1)) (mO := fun z => z.2) zk_X12_image zi_X12_image q1931 rfl ⟨by decide, by decide⟩ ⟨rfl, rfl⟩ rfl rfl (Nat.le_of_ble_eq_true rfl) (by decide +kernel) (fun z hz => c_X12_image hz) (fun z4 => ?_)
  change Sim l G Y_L_law lim _ _ 1817 [some (.inr (.inr 4000)), some (.inr (.inr x1)), some (.inr (.inr x2)), some (.inl x3)] [.inl z4.1, .inl z2.1] z4.2
  refine s_ic_eq (tgt := 1845) (off := 28) (by decide +kernel) (by decide) (fun h5 => ?_) (fun h5 => ?_)
  · skip
    refine s_run (b := [(.iinc 3 6, 3), (.goto (-1830), 3)]) 18 [some (.inr (.inr 4000)), some (.inr (.inr x1)), some (.inr (.inr x2)), some (.inl (x3 + (6 : Int32)))] [] (by decide +kernel) rfl ?_
    exact s_lsub (ls' := [some (.inr (.inr 4000)), some (.inr (.inr x1)), some (.inr (.inr x2)), some (.inl (x3 + (6 : Int32)))]) ⟨rfl, ⟨rfl, ⟨rfl, ⟨rfl, trivial⟩⟩⟩⟩ (kk1 (x3 + (6 : Int32)) z4.2)
  · skip
    exact s_none
def f_L_law_J1822 (lim : Nat × Nat) (X : List Int32) (M : Mem) (x1 : Nat) (x2 : Nat) (x3 : Int32)  : Option ((Int32 × Mem) ⊕ ((Mem))) :=
  (scI X (x3 + (1 : Int32))).bind fun v1 =>
  (ob M 11 x1).bind fun _ => (f_X11_again M x1 v1).bind fun z2 =>
  (scI X (x3 + (1 : Int32))).bind fun v3 =>
  (ob z2.2 12 x2).bind fun _ => (f_X12_again z2.2 x2 v3).bind fun z4 =>
  (if z2.1 = z4.1 then
    some (.inl ((x3 + (6 : Int32)), z4.2))
  else
    none)
set_option maxHeartbeats 8000000 in
set_option maxRecDepth 20000 in
theorem J_L_law_1822 {l : Launch} {G : Gv} {lim : Nat × Nat} (M : Mem) (x1 : Nat) (x2 : Nat) (x3 : Int32)  (K : (Int32 × Mem) ⊕ ((Mem)) → Option (Option Value × Mem)) (kk1 : ∀ (s3 : Int32) (s_ : Mem), SimR l G Y_L_law lim (K (.inl (s3, s_))) 18 [some (.inr (.inr 4000)), some (.inr (.inr x1)), some (.inr (.inr x2)), some (.inl s3)] [] s_) (kk2_0 : ∀ (s_ : Mem), SimR l G Y_L_law lim (K (.inr s_)) 1851 [none, none, none, none] [] s_) : Sim l G Y_L_law lim (f_L_law_J1822 lim G.2.2.2.2 M x1 x2 x3) K 1822 [some (.inr (.inr 4000)), some (.inr (.inr x1)), some (.inr (.inr x2)), some (.inl x3)] [] M := by
  unfold f_L_law_J1822
  refine s_run (b := [(.aload_n 1, 1), (.aload_n 0, 1), (.iload_n 3, 1), (.iconst 1, 1), (.iadd, 1)]) 1827 [some (.inr (.inr 4000)), some (.inr (.inr x1)), some (.inr (.inr x2)), some (.inl x3)] [.inl (x3 + (1 : Int32)), .inr (.inr 4000), .inr (.inr x1)] (by decide +kernel) rfl ?_
  refine s_sc (by decide +kernel) (fun v1 => ?_)
  refine s_cV (Z := Y_X11_again) (c := 11) (vs := [.inl v1]) (st := []) (rO := fun z => some (.inl z.1)) (mO := fun z => z.2) zk_X11_again zi_X11_again q1307 rfl ⟨by decide, by decide⟩ ⟨rfl, rfl⟩ rfl rfl (Nat.le_of_ble_eq_true rfl) (by decide +kernel) (fun z hz => c_X11_again hz) (fun z2 => ?_)
  change Sim l G Y_L_law lim _ _ 1831 [some (.inr (.inr 4000)), some (.inr (.inr x1)), some (.inr (.inr x2)), some (.inl x3)] [.inl z2.1] z2.2
  refine s_run (b := [(.aload_n 2, 1), (.aload_n 0, 1), (.iload_n 3, 1), (.iconst 1, 1), (.iadd, 1)]) 1836 [some (.inr (.inr 4000)), some (.inr (.inr x1)), some (.inr (.inr x2)), some (.inl x3)] [.inl (x3 + (1 : Int32)), .inr (.inr 4000), .inr (.inr x2), .inl z2.1] (by decide +kernel) rfl ?_
  refine s_sc (by decide +kernel) (fun v3 => ?_)
  refine s_cV (Z := Y_X12_again) (c := 12) (vs := [.inl v3]) (st := [.inl z2.1]) (rO := fun z => some (.inl z.1)) (mO := fun z => z.2) zk_X12_again zi_X12_again q1935 rfl ⟨by decide, by decide⟩ ⟨rfl, rfl⟩ rfl rfl (Nat.le_of_ble_eq_true rfl) (by decide +kernel) (fun z hz => c_X12_again hz) (fun z4 => ?_)
  change Sim l G Y_L_law lim _ _ 1840 [some (.inr (.inr 4000)), some (.inr (.inr x1)), some (.inr (.inr x2)), some (.inl x3)] [.inl z4.1, .inl z2.1] z4.2
  refine s_ic_eq (tgt := 1845) (off := 5) (by decide +kernel) (by decide) (fun h5 => ?_) (fun h5 => ?_)
  · skip
    refine s_run (b := [(.iinc 3 6, 3), (.goto (-1830), 3)]) 18 [some (.inr (.inr 4000)), some (.inr (.inr x1)), some (.inr (.inr x2)), some (.inl (x3 + (6 : Int32)))] [] (by decide +kernel) rfl ?_
    exact s_lsub (ls' := [some (.inr (.inr 4000)), some (.inr (.inr x1)), some (.inr (.inr x2)), some (.inl (x3 + (6 : Int32)))]) ⟨rfl, ⟨rfl, ⟨rfl, ⟨rfl, trivial⟩⟩⟩⟩ (kk1 (x3 + (6 : Int32)) z4.2)
  · skip
    exact s_none
def f_L_law_B18 (lim : Nat × Nat) (X : List Int32) (M : Mem) (x1 : Nat) (x2 : Nat) (x3 : Int32) : Option ((Int32 × Mem) ⊕ ((Mem))) :=
  (if ((Int32.ofNat X.length) - (6 : Int32)) < x3 then
    some (.inr M)
  else
    (scI X x3).bind fun v2 =>
    (if (v2 &&& (63 : Int32)) = (0 : Int32) then
      f_L_law_J204 lim X M x1 x2 x3 
    else
    (if (v2 &&& (63 : Int32)) = (1 : Int32) then
      f_L_law_J267 lim X M x1 x2 x3 
    else
    (if (v2 &&& (63 : Int32)) = (2 : Int32) then
      f_L_law_J290 lim X M x1 x2 x3 
    else
    (if (v2 &&& (63 : Int32)) = (3 : Int32) then
      f_L_law_J323 lim X M x1 x2 x3 
    else
    (if (v2 &&& (63 : Int32)) = (4 : Int32) then
      f_L_law_J346 lim X M x1 x2 x3 
    else
    (if (v2 &&& (63 : Int32)) = (5 : Int32) then
      f_L_law_J379 lim X M x1 x2 x3 
    else
    (if (v2 &&& (63 : Int32)) = (6 : Int32) then
      f_L_law_J422 lim X M x1 x2 x3 
    else
    (if (v2 &&& (63 : Int32)) = (7 : Int32) then
      f_L_law_J455 lim X M x1 x2 x3 
    else
    (if (v2 &&& (63 : Int32)) = (8 : Int32) then
      f_L_law_J508 lim X M x1 x2 x3 
    else
    (if (v2 &&& (63 : Int32)) = (9 : Int32) then
      f_L_law_J577 lim X M x1 x2 x3 
    else
    (if (v2 &&& (63 : Int32)) = (10 : Int32) then
      f_L_law_J600 lim X M x1 x2 x3 
    else
    (if (v2 &&& (63 : Int32)) = (11 : Int32) then
      f_L_law_J660 lim X M x1 x2 x3 
    else
    (if (v2 &&& (63 : Int32)) = (12 : Int32) then
      f_L_law_J720 lim X M x1 x2 x3 
    else
    (if (v2 &&& (63 : Int32)) = (13 : Int32) then
      f_L_law_J773 lim X M x1 x2 x3 
    else
    (if (v2 &&& (63 : Int32)) = (14 : Int32) then
      f_L_law_J807 lim X M x1 x2 x3 
    else
    (if (v2 &&& (63 : Int32)) = (15 : Int32) then
      f_L_law_J850 lim X M x1 x2 x3 
    else
    (if (v2 &&& (63 : Int32)) = (16 : Int32) then
      f_L_law_J893 lim X M x1 x2 x3 
    else
    (if (v2 &&& (63 : Int32)) = (17 : Int32) then
      f_L_law_J946 lim X M x1 x2 x3 
    else
    (if (v2 &&& (63 : Int32)) = (18 : Int32) then
      f_L_law_J1005 lim X M x1 x2 x3 
    else
    (if (v2 &&& (63 : Int32)) = (19 : Int32) then
      f_L_law_J1048 lim X M x1 x2 x3 
    else
    (if (v2 &&& (63 : Int32)) = (20 : Int32) then
      f_L_law_J1097 lim X M x1 x2 x3 
    else
    (if (v2 &&& (63 : Int32)) = (21 : Int32) then
      f_L_law_J1146 lim X M x1 x2 x3 
    else
    (if (v2 &&& (63 : Int32)) = (22 : Int32) then
      f_L_law_J1205 lim X M x1 x2 x3 
    else
    (if (v2 &&& (63 : Int32)) = (23 : Int32) then
      f_L_law_J1238 lim X M x1 x2 x3 
    else
    (if (v2 &&& (63 : Int32)) = (24 : Int32) then
      f_L_law_J1271 lim X M x1 x2 x3 
    else
    (if (v2 &&& (63 : Int32)) = (25 : Int32) then
      f_L_law_J1304 lim X M x1 x2 x3 
    else
    (if (v2 &&& (63 : Int32)) = (26 : Int32) then
      f_L_law_J1327 lim X M x1 x2 x3 
    else
    (if (v2 &&& (63 : Int32)) = (27 : Int32) then
      f_L_law_J1370 lim X M x1 x2 x3 
    else
    (if (v2 &&& (63 : Int32)) = (28 : Int32) then
      f_L_law_J1413 lim X M x1 x2 x3 
    else
    (if (v2 &&& (63 : Int32)) = (29 : Int32) then
      f_L_law_J1472 lim X M x1 x2 x3 
    else
    (if (v2 &&& (63 : Int32)) = (30 : Int32) then
      f_L_law_J1515 lim X M x1 x2 x3 
    else
    (if (v2 &&& (63 : Int32)) = (31 : Int32) then
      f_L_law_J1558 lim X M x1 x2 x3 
    else
    (if (v2 &&& (63 : Int32)) = (32 : Int32) then
      f_L_law_J1591 lim X M x1 x2 x3 
    else
    (if (v2 &&& (63 : Int32)) = (33 : Int32) then
      f_L_law_J1651 lim X M x1 x2 x3 
    else
    (if (v2 &&& (63 : Int32)) = (34 : Int32) then
      f_L_law_J1674 lim X M x1 x2 x3 
    else
    (if (v2 &&& (63 : Int32)) = (35 : Int32) then
      f_L_law_J1727 lim X M x1 x2 x3 
    else
    (if (v2 &&& (63 : Int32)) = (36 : Int32) then
      f_L_law_J1776 lim X M x1 x2 x3 
    else
    (if (v2 &&& (63 : Int32)) = (37 : Int32) then
      f_L_law_J1799 lim X M x1 x2 x3 
    else
    (if (v2 &&& (63 : Int32)) = (38 : Int32) then
      f_L_law_J1822 lim X M x1 x2 x3 
    else
    some (.inl ((x3 + (6 : Int32)), M))))))))))))))))))))))))))))))))))))))))))
def f_L_law_L18 (lim : Nat × Nat) (X : List Int32) (M : Mem) (x1 : Nat) (x2 : Nat) (x3 : Int32) : Option ((Mem)) := iter (fun s : Int32 × Mem => f_L_law_B18 lim X s.2 x1 x2 s.1) 1048576 (x3, M)
set_option maxHeartbeats 8000000 in
set_option maxRecDepth 20000 in
theorem B_L_law_18 {l : Launch} {G : Gv} {lim : Nat × Nat} (M : Mem) (x1 : Nat) (x2 : Nat) (x3 : Int32) (K : (Int32 × Mem) ⊕ ((Mem)) → Option (Option Value × Mem)) (kk1 : ∀ (s3 : Int32) (s_ : Mem), SimR l G Y_L_law lim (K (.inl (s3, s_))) 18 [some (.inr (.inr 4000)), some (.inr (.inr x1)), some (.inr (.inr x2)), some (.inl s3)] [] s_) (kk2_0 : ∀ (s_ : Mem), SimR l G Y_L_law lim (K (.inr s_)) 1851 [none, none, none, none] [] s_) : Sim l G Y_L_law lim (f_L_law_B18 lim G.2.2.2.2 M x1 x2 x3) K 18 [some (.inr (.inr 4000)), some (.inr (.inr x1)), some (.inr (.inr x2)), some (.inl x3)] [] M := by
  unfold f_L_law_B18
  refine s_run (b := [(.iload_n 3, 1), (.aload_n 0, 1)]) 20 [some (.inr (.inr 4000)), some (.inr (.inr x1)), some (.inr (.inr x2)), some (.inl x3)] [.inr (.inr 4000), .inl x3] (by decide +kernel) rfl ?_
  refine s_scl rfl (by decide +kernel) ?_
  change Sim l G Y_L_law lim _ _ 21 [some (.inr (.inr 4000)), some (.inr (.inr x1)), some (.inr (.inr x2)), some (.inl x3)] [.inl (Int32.ofNat G.2.2.2.2.length), .inl x3] M
  refine s_run (b := [(.bipush 6, 2), (.isub, 1)]) 24 [some (.inr (.inr 4000)), some (.inr (.inr x1)), some (.inr (.inr x2)), some (.inl x3)] [.inl ((Int32.ofNat G.2.2.2.2.length) - (6 : Int32)), .inl x3] (by decide +kernel) rfl ?_
  refine s_ic_gt (tgt := 1851) (off := 1827) (by decide +kernel) (by decide) (fun h1 => ?_) (fun h1 => ?_)
  · skip
    exact s_lsub (ls' := [none, none, none, none]) trivial (kk2_0 M)
  · skip
    refine s_run (b := [(.aload_n 0, 1), (.iload_n 3, 1)]) 29 [some (.inr (.inr 4000)), some (.inr (.inr x1)), some (.inr (.inr x2)), some (.inl x3)] [.inl x3, .inr (.inr 4000)] (by decide +kernel) rfl ?_
    refine s_sc (by decide +kernel) (fun v2 => ?_)
    refine s_run (b := [(.bipush 63, 2), (.iand, 1)]) 33 [some (.inr (.inr 4000)), some (.inr (.inr x1)), some (.inr (.inr x2)), some (.inl x3)] [.inl (v2 &&& (63 : Int32))] (by decide +kernel) rfl ?_
    refine s_ite (fun h3 => ?_) (fun h3 => ?_)
    · refine s_tabIn (off := 171) (tgt := 204)  (0 : Int32) dsw_L_law_33 h3 rfl rfl rfl (by decide) ?_
      change Sim l G Y_L_law lim _ _ 204 [some (.inr (.inr 4000)), some (.inr (.inr x1)), some (.inr (.inr x2)), some (.inl x3)] [] M
      exact s_lsub (ls' := [some (.inr (.inr 4000)), some (.inr (.inr x1)), some (.inr (.inr x2)), some (.inl x3)]) ⟨rfl, ⟨rfl, ⟨rfl, ⟨rfl, trivial⟩⟩⟩⟩ (J_L_law_204 M x1 x2 x3  K kk1 kk2_0)
    refine s_ite (fun h4 => ?_) (fun h4 => ?_)
    · refine s_tabIn (off := 234) (tgt := 267)  (1 : Int32) dsw_L_law_33 h4 rfl rfl rfl (by decide) ?_
      change Sim l G Y_L_law lim _ _ 267 [some (.inr (.inr 4000)), some (.inr (.inr x1)), some (.inr (.inr x2)), some (.inl x3)] [] M
      exact s_lsub (ls' := [some (.inr (.inr 4000)), some (.inr (.inr x1)), some (.inr (.inr x2)), some (.inl x3)]) ⟨rfl, ⟨rfl, ⟨rfl, ⟨rfl, trivial⟩⟩⟩⟩ (J_L_law_267 M x1 x2 x3  K kk1 kk2_0)
    refine s_ite (fun h5 => ?_) (fun h5 => ?_)
    · refine s_tabIn (off := 257) (tgt := 290)  (2 : Int32) dsw_L_law_33 h5 rfl rfl rfl (by decide) ?_
      change Sim l G Y_L_law lim _ _ 290 [some (.inr (.inr 4000)), some (.inr (.inr x1)), some (.inr (.inr x2)), some (.inl x3)] [] M
      exact s_lsub (ls' := [some (.inr (.inr 4000)), some (.inr (.inr x1)), some (.inr (.inr x2)), some (.inl x3)]) ⟨rfl, ⟨rfl, ⟨rfl, ⟨rfl, trivial⟩⟩⟩⟩ (J_L_law_290 M x1 x2 x3  K kk1 kk2_0)
    refine s_ite (fun h6 => ?_) (fun h6 => ?_)
    · refine s_tabIn (off := 290) (tgt := 323)  (3 : Int32) dsw_L_law_33 h6 rfl rfl rfl (by decide) ?_
      change Sim l G Y_L_law lim _ _ 323 [some (.inr (.inr 4000)), some (.inr (.inr x1)), some (.inr (.inr x2)), some (.inl x3)] [] M
      exact s_lsub (ls' := [some (.inr (.inr 4000)), some (.inr (.inr x1)), some (.inr (.inr x2)), some (.inl x3)]) ⟨rfl, ⟨rfl, ⟨rfl, ⟨rfl, trivial⟩⟩⟩⟩ (J_L_law_323 M x1 x2 x3  K kk1 kk2_0)
    refine s_ite (fun h7 => ?_) (fun h7 => ?_)
    · refine s_tabIn (off := 313) (tgt := 346)  (4 : Int32) dsw_L_law_33 h7 rfl rfl rfl (by decide) ?_
      change Sim l G Y_L_law lim _ _ 346 [some (.inr (.inr 4000)), some (.inr (.inr x1)), some (.inr (.inr x2)), some (.inl x3)] [] M
      exact s_lsub (ls' := [some (.inr (.inr 4000)), some (.inr (.inr x1)), some (.inr (.inr x2)), some (.inl x3)]) ⟨rfl, ⟨rfl, ⟨rfl, ⟨rfl, trivial⟩⟩⟩⟩ (J_L_law_346 M x1 x2 x3  K kk1 kk2_0)
    refine s_ite (fun h8 => ?_) (fun h8 => ?_)
    · refine s_tabIn (off := 346) (tgt := 379)  (5 : Int32) dsw_L_law_33 h8 rfl rfl rfl (by decide) ?_
      change Sim l G Y_L_law lim _ _ 379 [some (.inr (.inr 4000)), some (.inr (.inr x1)), some (.inr (.inr x2)), some (.inl x3)] [] M
      exact s_lsub (ls' := [some (.inr (.inr 4000)), some (.inr (.inr x1)), some (.inr (.inr x2)), some (.inl x3)]) ⟨rfl, ⟨rfl, ⟨rfl, ⟨rfl, trivial⟩⟩⟩⟩ (J_L_law_379 M x1 x2 x3  K kk1 kk2_0)
    refine s_ite (fun h9 => ?_) (fun h9 => ?_)
    · refine s_tabIn (off := 389) (tgt := 422)  (6 : Int32) dsw_L_law_33 h9 rfl rfl rfl (by decide) ?_
      change Sim l G Y_L_law lim _ _ 422 [some (.inr (.inr 4000)), some (.inr (.inr x1)), some (.inr (.inr x2)), some (.inl x3)] [] M
      exact s_lsub (ls' := [some (.inr (.inr 4000)), some (.inr (.inr x1)), some (.inr (.inr x2)), some (.inl x3)]) ⟨rfl, ⟨rfl, ⟨rfl, ⟨rfl, trivial⟩⟩⟩⟩ (J_L_law_422 M x1 x2 x3  K kk1 kk2_0)
    refine s_ite (fun h10 => ?_) (fun h10 => ?_)
    · refine s_tabIn (off := 422) (tgt := 455)  (7 : Int32) dsw_L_law_33 h10 rfl rfl rfl (by decide) ?_
      change Sim l G Y_L_law lim _ _ 455 [some (.inr (.inr 4000)), some (.inr (.inr x1)), some (.inr (.inr x2)), some (.inl x3)] [] M
      exact s_lsub (ls' := [some (.inr (.inr 4000)), some (.inr (.inr x1)), some (.inr (.inr x2)), some (.inl x3)]) ⟨rfl, ⟨rfl, ⟨rfl, ⟨rfl, trivial⟩⟩⟩⟩ (J_L_law_455 M x1 x2 x3  K kk1 kk2_0)
    refine s_ite (fun h11 => ?_) (fun h11 => ?_)
    · refine s_tabIn (off := 475) (tgt := 508)  (8 : Int32) dsw_L_law_33 h11 rfl rfl rfl (by decide) ?_
      change Sim l G Y_L_law lim _ _ 508 [some (.inr (.inr 4000)), some (.inr (.inr x1)), some (.inr (.inr x2)), some (.inl x3)] [] M
      exact s_lsub (ls' := [some (.inr (.inr 4000)), some (.inr (.inr x1)), some (.inr (.inr x2)), some (.inl x3)]) ⟨rfl, ⟨rfl, ⟨rfl, ⟨rfl, trivial⟩⟩⟩⟩ (J_L_law_508 M x1 x2 x3  K kk1 kk2_0)
    refine s_ite (fun h12 => ?_) (fun h12 => ?_)
    · refine s_tabIn (off := 544) (tgt := 577)  (9 : Int32) dsw_L_law_33 h12 rfl rfl rfl (by decide) ?_
      change Sim l G Y_L_law lim _ _ 577 [some (.inr (.inr 4000)), some (.inr (.inr x1)), some (.inr (.inr x2)), some (.inl x3)] [] M
      exact s_lsub (ls' := [some (.inr (.inr 4000)), some (.inr (.inr x1)), some (.inr (.inr x2)), some (.inl x3)]) ⟨rfl, ⟨rfl, ⟨rfl, ⟨rfl, trivial⟩⟩⟩⟩ (J_L_law_577 M x1 x2 x3  K kk1 kk2_0)
    refine s_ite (fun h13 => ?_) (fun h13 => ?_)
    · refine s_tabIn (off := 567) (tgt := 600)  (10 : Int32) dsw_L_law_33 h13 rfl rfl rfl (by decide) ?_
      change Sim l G Y_L_law lim _ _ 600 [some (.inr (.inr 4000)), some (.inr (.inr x1)), some (.inr (.inr x2)), some (.inl x3)] [] M
      exact s_lsub (ls' := [some (.inr (.inr 4000)), some (.inr (.inr x1)), some (.inr (.inr x2)), some (.inl x3)]) ⟨rfl, ⟨rfl, ⟨rfl, ⟨rfl, trivial⟩⟩⟩⟩ (J_L_law_600 M x1 x2 x3  K kk1 kk2_0)
    refine s_ite (fun h14 => ?_) (fun h14 => ?_)
    · refine s_tabIn (off := 627) (tgt := 660)  (11 : Int32) dsw_L_law_33 h14 rfl rfl rfl (by decide) ?_
      change Sim l G Y_L_law lim _ _ 660 [some (.inr (.inr 4000)), some (.inr (.inr x1)), some (.inr (.inr x2)), some (.inl x3)] [] M
      exact s_lsub (ls' := [some (.inr (.inr 4000)), some (.inr (.inr x1)), some (.inr (.inr x2)), some (.inl x3)]) ⟨rfl, ⟨rfl, ⟨rfl, ⟨rfl, trivial⟩⟩⟩⟩ (J_L_law_660 M x1 x2 x3  K kk1 kk2_0)
    refine s_ite (fun h15 => ?_) (fun h15 => ?_)
    · refine s_tabIn (off := 687) (tgt := 720)  (12 : Int32) dsw_L_law_33 h15 rfl rfl rfl (by decide) ?_
      change Sim l G Y_L_law lim _ _ 720 [some (.inr (.inr 4000)), some (.inr (.inr x1)), some (.inr (.inr x2)), some (.inl x3)] [] M
      exact s_lsub (ls' := [some (.inr (.inr 4000)), some (.inr (.inr x1)), some (.inr (.inr x2)), some (.inl x3)]) ⟨rfl, ⟨rfl, ⟨rfl, ⟨rfl, trivial⟩⟩⟩⟩ (J_L_law_720 M x1 x2 x3  K kk1 kk2_0)
    refine s_ite (fun h16 => ?_) (fun h16 => ?_)
    · refine s_tabIn (off := 740) (tgt := 773)  (13 : Int32) dsw_L_law_33 h16 rfl rfl rfl (by decide) ?_
      change Sim l G Y_L_law lim _ _ 773 [some (.inr (.inr 4000)), some (.inr (.inr x1)), some (.inr (.inr x2)), some (.inl x3)] [] M
      exact s_lsub (ls' := [some (.inr (.inr 4000)), some (.inr (.inr x1)), some (.inr (.inr x2)), some (.inl x3)]) ⟨rfl, ⟨rfl, ⟨rfl, ⟨rfl, trivial⟩⟩⟩⟩ (J_L_law_773 M x1 x2 x3  K kk1 kk2_0)
    refine s_ite (fun h17 => ?_) (fun h17 => ?_)
    · refine s_tabIn (off := 774) (tgt := 807)  (14 : Int32) dsw_L_law_33 h17 rfl rfl rfl (by decide) ?_
      change Sim l G Y_L_law lim _ _ 807 [some (.inr (.inr 4000)), some (.inr (.inr x1)), some (.inr (.inr x2)), some (.inl x3)] [] M
      exact s_lsub (ls' := [some (.inr (.inr 4000)), some (.inr (.inr x1)), some (.inr (.inr x2)), some (.inl x3)]) ⟨rfl, ⟨rfl, ⟨rfl, ⟨rfl, trivial⟩⟩⟩⟩ (J_L_law_807 M x1 x2 x3  K kk1 kk2_0)
    refine s_ite (fun h18 => ?_) (fun h18 => ?_)
    · refine s_tabIn (off := 817) (tgt := 850)  (15 : Int32) dsw_L_law_33 h18 rfl rfl rfl (by decide) ?_
      change Sim l G Y_L_law lim _ _ 850 [some (.inr (.inr 4000)), some (.inr (.inr x1)), some (.inr (.inr x2)), some (.inl x3)] [] M
      exact s_lsub (ls' := [some (.inr (.inr 4000)), some (.inr (.inr x1)), some (.inr (.inr x2)), some (.inl x3)]) ⟨rfl, ⟨rfl, ⟨rfl, ⟨rfl, trivial⟩⟩⟩⟩ (J_L_law_850 M x1 x2 x3  K kk1 kk2_0)
    refine s_ite (fun h19 => ?_) (fun h19 => ?_)
    · refine s_tabIn (off := 860) (tgt := 893)  (16 : Int32) dsw_L_law_33 h19 rfl rfl rfl (by decide) ?_
      change Sim l G Y_L_law lim _ _ 893 [some (.inr (.inr 4000)), some (.inr (.inr x1)), some (.inr (.inr x2)), some (.inl x3)] [] M
      exact s_lsub (ls' := [some (.inr (.inr 4000)), some (.inr (.inr x1)), some (.inr (.inr x2)), some (.inl x3)]) ⟨rfl, ⟨rfl, ⟨rfl, ⟨rfl, trivial⟩⟩⟩⟩ (J_L_law_893 M x1 x2 x3  K kk1 kk2_0)
    refine s_ite (fun h20 => ?_) (fun h20 => ?_)
    · refine s_tabIn (off := 913) (tgt := 946)  (17 : Int32) dsw_L_law_33 h20 rfl rfl rfl (by decide) ?_
      change Sim l G Y_L_law lim _ _ 946 [some (.inr (.inr 4000)), some (.inr (.inr x1)), some (.inr (.inr x2)), some (.inl x3)] [] M
      exact s_lsub (ls' := [some (.inr (.inr 4000)), some (.inr (.inr x1)), some (.inr (.inr x2)), some (.inl x3)]) ⟨rfl, ⟨rfl, ⟨rfl, ⟨rfl, trivial⟩⟩⟩⟩ (J_L_law_946 M x1 x2 x3  K kk1 kk2_0)
    refine s_ite (fun h21 => ?_) (fun h21 => ?_)
    · refine s_tabIn (off := 972) (tgt := 1005)  (18 : Int32) dsw_L_law_33 h21 rfl rfl rfl (by decide) ?_
      change Sim l G Y_L_law lim _ _ 1005 [some (.inr (.inr 4000)), some (.inr (.inr x1)), some (.inr (.inr x2)), some (.inl x3)] [] M
      exact s_lsub (ls' := [some (.inr (.inr 4000)), some (.inr (.inr x1)), some (.inr (.inr x2)), some (.inl x3)]) ⟨rfl, ⟨rfl, ⟨rfl, ⟨rfl, trivial⟩⟩⟩⟩ (J_L_law_1005 M x1 x2 x3  K kk1 kk2_0)
    refine s_ite (fun h22 => ?_) (fun h22 => ?_)
    · refine s_tabIn (off := 1015) (tgt := 1048)  (19 : Int32) dsw_L_law_33 h22 rfl rfl rfl (by decide) ?_
      change Sim l G Y_L_law lim _ _ 1048 [some (.inr (.inr 4000)), some (.inr (.inr x1)), some (.inr (.inr x2)), some (.inl x3)] [] M
      exact s_lsub (ls' := [some (.inr (.inr 4000)), some (.inr (.inr x1)), some (.inr (.inr x2)), some (.inl x3)]) ⟨rfl, ⟨rfl, ⟨rfl, ⟨rfl, trivial⟩⟩⟩⟩ (J_L_law_1048 M x1 x2 x3  K kk1 kk2_0)
    refine s_ite (fun h23 => ?_) (fun h23 => ?_)
    · refine s_tabIn (off := 1064) (tgt := 1097)  (20 : Int32) dsw_L_law_33 h23 rfl rfl rfl (by decide) ?_
      change Sim l G Y_L_law lim _ _ 1097 [some (.inr (.inr 4000)), some (.inr (.inr x1)), some (.inr (.inr x2)), some (.inl x3)] [] M
      exact s_lsub (ls' := [some (.inr (.inr 4000)), some (.inr (.inr x1)), some (.inr (.inr x2)), some (.inl x3)]) ⟨rfl, ⟨rfl, ⟨rfl, ⟨rfl, trivial⟩⟩⟩⟩ (J_L_law_1097 M x1 x2 x3  K kk1 kk2_0)
    refine s_ite (fun h24 => ?_) (fun h24 => ?_)
    · refine s_tabIn (off := 1113) (tgt := 1146)  (21 : Int32) dsw_L_law_33 h24 rfl rfl rfl (by decide) ?_
      change Sim l G Y_L_law lim _ _ 1146 [some (.inr (.inr 4000)), some (.inr (.inr x1)), some (.inr (.inr x2)), some (.inl x3)] [] M
      exact s_lsub (ls' := [some (.inr (.inr 4000)), some (.inr (.inr x1)), some (.inr (.inr x2)), some (.inl x3)]) ⟨rfl, ⟨rfl, ⟨rfl, ⟨rfl, trivial⟩⟩⟩⟩ (J_L_law_1146 M x1 x2 x3  K kk1 kk2_0)
    refine s_ite (fun h25 => ?_) (fun h25 => ?_)
    · refine s_tabIn (off := 1172) (tgt := 1205)  (22 : Int32) dsw_L_law_33 h25 rfl rfl rfl (by decide) ?_
      change Sim l G Y_L_law lim _ _ 1205 [some (.inr (.inr 4000)), some (.inr (.inr x1)), some (.inr (.inr x2)), some (.inl x3)] [] M
      exact s_lsub (ls' := [some (.inr (.inr 4000)), some (.inr (.inr x1)), some (.inr (.inr x2)), some (.inl x3)]) ⟨rfl, ⟨rfl, ⟨rfl, ⟨rfl, trivial⟩⟩⟩⟩ (J_L_law_1205 M x1 x2 x3  K kk1 kk2_0)
    refine s_ite (fun h26 => ?_) (fun h26 => ?_)
    · refine s_tabIn (off := 1205) (tgt := 1238)  (23 : Int32) dsw_L_law_33 h26 rfl rfl rfl (by decide) ?_
      change Sim l G Y_L_law lim _ _ 1238 [some (.inr (.inr 4000)), some (.inr (.inr x1)), some (.inr (.inr x2)), some (.inl x3)] [] M
      exact s_lsub (ls' := [some (.inr (.inr 4000)), some (.inr (.inr x1)), some (.inr (.inr x2)), some (.inl x3)]) ⟨rfl, ⟨rfl, ⟨rfl, ⟨rfl, trivial⟩⟩⟩⟩ (J_L_law_1238 M x1 x2 x3  K kk1 kk2_0)
    refine s_ite (fun h27 => ?_) (fun h27 => ?_)
    · refine s_tabIn (off := 1238) (tgt := 1271)  (24 : Int32) dsw_L_law_33 h27 rfl rfl rfl (by decide) ?_
      change Sim l G Y_L_law lim _ _ 1271 [some (.inr (.inr 4000)), some (.inr (.inr x1)), some (.inr (.inr x2)), some (.inl x3)] [] M
      exact s_lsub (ls' := [some (.inr (.inr 4000)), some (.inr (.inr x1)), some (.inr (.inr x2)), some (.inl x3)]) ⟨rfl, ⟨rfl, ⟨rfl, ⟨rfl, trivial⟩⟩⟩⟩ (J_L_law_1271 M x1 x2 x3  K kk1 kk2_0)
    refine s_ite (fun h28 => ?_) (fun h28 => ?_)
    · refine s_tabIn (off := 1271) (tgt := 1304)  (25 : Int32) dsw_L_law_33 h28 rfl rfl rfl (by decide) ?_
      change Sim l G Y_L_law lim _ _ 1304 [some (.inr (.inr 4000)), some (.inr (.inr x1)), some (.inr (.inr x2)), some (.inl x3)] [] M
      exact s_lsub (ls' := [some (.inr (.inr 4000)), some (.inr (.inr x1)), some (.inr (.inr x2)), some (.inl x3)]) ⟨rfl, ⟨rfl, ⟨rfl, ⟨rfl, trivial⟩⟩⟩⟩ (J_L_law_1304 M x1 x2 x3  K kk1 kk2_0)
    refine s_ite (fun h29 => ?_) (fun h29 => ?_)
    · refine s_tabIn (off := 1294) (tgt := 1327)  (26 : Int32) dsw_L_law_33 h29 rfl rfl rfl (by decide) ?_
      change Sim l G Y_L_law lim _ _ 1327 [some (.inr (.inr 4000)), some (.inr (.inr x1)), some (.inr (.inr x2)), some (.inl x3)] [] M
      exact s_lsub (ls' := [some (.inr (.inr 4000)), some (.inr (.inr x1)), some (.inr (.inr x2)), some (.inl x3)]) ⟨rfl, ⟨rfl, ⟨rfl, ⟨rfl, trivial⟩⟩⟩⟩ (J_L_law_1327 M x1 x2 x3  K kk1 kk2_0)
    refine s_ite (fun h30 => ?_) (fun h30 => ?_)
    · refine s_tabIn (off := 1337) (tgt := 1370)  (27 : Int32) dsw_L_law_33 h30 rfl rfl rfl (by decide) ?_
      change Sim l G Y_L_law lim _ _ 1370 [some (.inr (.inr 4000)), some (.inr (.inr x1)), some (.inr (.inr x2)), some (.inl x3)] [] M
      exact s_lsub (ls' := [some (.inr (.inr 4000)), some (.inr (.inr x1)), some (.inr (.inr x2)), some (.inl x3)]) ⟨rfl, ⟨rfl, ⟨rfl, ⟨rfl, trivial⟩⟩⟩⟩ (J_L_law_1370 M x1 x2 x3  K kk1 kk2_0)
    refine s_ite (fun h31 => ?_) (fun h31 => ?_)
    · refine s_tabIn (off := 1380) (tgt := 1413)  (28 : Int32) dsw_L_law_33 h31 rfl rfl rfl (by decide) ?_
      change Sim l G Y_L_law lim _ _ 1413 [some (.inr (.inr 4000)), some (.inr (.inr x1)), some (.inr (.inr x2)), some (.inl x3)] [] M
      exact s_lsub (ls' := [some (.inr (.inr 4000)), some (.inr (.inr x1)), some (.inr (.inr x2)), some (.inl x3)]) ⟨rfl, ⟨rfl, ⟨rfl, ⟨rfl, trivial⟩⟩⟩⟩ (J_L_law_1413 M x1 x2 x3  K kk1 kk2_0)
    refine s_ite (fun h32 => ?_) (fun h32 => ?_)
    · refine s_tabIn (off := 1439) (tgt := 1472)  (29 : Int32) dsw_L_law_33 h32 rfl rfl rfl (by decide) ?_
      change Sim l G Y_L_law lim _ _ 1472 [some (.inr (.inr 4000)), some (.inr (.inr x1)), some (.inr (.inr x2)), some (.inl x3)] [] M
      exact s_lsub (ls' := [some (.inr (.inr 4000)), some (.inr (.inr x1)), some (.inr (.inr x2)), some (.inl x3)]) ⟨rfl, ⟨rfl, ⟨rfl, ⟨rfl, trivial⟩⟩⟩⟩ (J_L_law_1472 M x1 x2 x3  K kk1 kk2_0)
    refine s_ite (fun h33 => ?_) (fun h33 => ?_)
    · refine s_tabIn (off := 1482) (tgt := 1515)  (30 : Int32) dsw_L_law_33 h33 rfl rfl rfl (by decide) ?_
      change Sim l G Y_L_law lim _ _ 1515 [some (.inr (.inr 4000)), some (.inr (.inr x1)), some (.inr (.inr x2)), some (.inl x3)] [] M
      exact s_lsub (ls' := [some (.inr (.inr 4000)), some (.inr (.inr x1)), some (.inr (.inr x2)), some (.inl x3)]) ⟨rfl, ⟨rfl, ⟨rfl, ⟨rfl, trivial⟩⟩⟩⟩ (J_L_law_1515 M x1 x2 x3  K kk1 kk2_0)
    refine s_ite (fun h34 => ?_) (fun h34 => ?_)
    · refine s_tabIn (off := 1525) (tgt := 1558)  (31 : Int32) dsw_L_law_33 h34 rfl rfl rfl (by decide) ?_
      change Sim l G Y_L_law lim _ _ 1558 [some (.inr (.inr 4000)), some (.inr (.inr x1)), some (.inr (.inr x2)), some (.inl x3)] [] M
      exact s_lsub (ls' := [some (.inr (.inr 4000)), some (.inr (.inr x1)), some (.inr (.inr x2)), some (.inl x3)]) ⟨rfl, ⟨rfl, ⟨rfl, ⟨rfl, trivial⟩⟩⟩⟩ (J_L_law_1558 M x1 x2 x3  K kk1 kk2_0)
    refine s_ite (fun h35 => ?_) (fun h35 => ?_)
    · refine s_tabIn (off := 1558) (tgt := 1591)  (32 : Int32) dsw_L_law_33 h35 rfl rfl rfl (by decide) ?_
      change Sim l G Y_L_law lim _ _ 1591 [some (.inr (.inr 4000)), some (.inr (.inr x1)), some (.inr (.inr x2)), some (.inl x3)] [] M
      exact s_lsub (ls' := [some (.inr (.inr 4000)), some (.inr (.inr x1)), some (.inr (.inr x2)), some (.inl x3)]) ⟨rfl, ⟨rfl, ⟨rfl, ⟨rfl, trivial⟩⟩⟩⟩ (J_L_law_1591 M x1 x2 x3  K kk1 kk2_0)
    refine s_ite (fun h36 => ?_) (fun h36 => ?_)
    · refine s_tabIn (off := 1618) (tgt := 1651)  (33 : Int32) dsw_L_law_33 h36 rfl rfl rfl (by decide) ?_
      change Sim l G Y_L_law lim _ _ 1651 [some (.inr (.inr 4000)), some (.inr (.inr x1)), some (.inr (.inr x2)), some (.inl x3)] [] M
      exact s_lsub (ls' := [some (.inr (.inr 4000)), some (.inr (.inr x1)), some (.inr (.inr x2)), some (.inl x3)]) ⟨rfl, ⟨rfl, ⟨rfl, ⟨rfl, trivial⟩⟩⟩⟩ (J_L_law_1651 M x1 x2 x3  K kk1 kk2_0)
    refine s_ite (fun h37 => ?_) (fun h37 => ?_)
    · refine s_tabIn (off := 1641) (tgt := 1674)  (34 : Int32) dsw_L_law_33 h37 rfl rfl rfl (by decide) ?_
      change Sim l G Y_L_law lim _ _ 1674 [some (.inr (.inr 4000)), some (.inr (.inr x1)), some (.inr (.inr x2)), some (.inl x3)] [] M
      exact s_lsub (ls' := [some (.inr (.inr 4000)), some (.inr (.inr x1)), some (.inr (.inr x2)), some (.inl x3)]) ⟨rfl, ⟨rfl, ⟨rfl, ⟨rfl, trivial⟩⟩⟩⟩ (J_L_law_1674 M x1 x2 x3  K kk1 kk2_0)
    refine s_ite (fun h38 => ?_) (fun h38 => ?_)
    · refine s_tabIn (off := 1694) (tgt := 1727)  (35 : Int32) dsw_L_law_33 h38 rfl rfl rfl (by decide) ?_
      change Sim l G Y_L_law lim _ _ 1727 [some (.inr (.inr 4000)), some (.inr (.inr x1)), some (.inr (.inr x2)), some (.inl x3)] [] M
      exact s_lsub (ls' := [some (.inr (.inr 4000)), some (.inr (.inr x1)), some (.inr (.inr x2)), some (.inl x3)]) ⟨rfl, ⟨rfl, ⟨rfl, ⟨rfl, trivial⟩⟩⟩⟩ (J_L_law_1727 M x1 x2 x3  K kk1 kk2_0)
    refine s_ite (fun h39 => ?_) (fun h39 => ?_)
    · refine s_tabIn (off := 1743) (tgt := 1776)  (36 : Int32) dsw_L_law_33 h39 rfl rfl rfl (by decide) ?_
      change Sim l G Y_L_law lim _ _ 1776 [some (.inr (.inr 4000)), some (.inr (.inr x1)), some (.inr (.inr x2)), some (.inl x3)] [] M
      exact s_lsub (ls' := [some (.inr (.inr 4000)), some (.inr (.inr x1)), some (.inr (.inr x2)), some (.inl x3)]) ⟨rfl, ⟨rfl, ⟨rfl, ⟨rfl, trivial⟩⟩⟩⟩ (J_L_law_1776 M x1 x2 x3  K kk1 kk2_0)
    refine s_ite (fun h40 => ?_) (fun h40 => ?_)
    · refine s_tabIn (off := 1766) (tgt := 1799)  (37 : Int32) dsw_L_law_33 h40 rfl rfl rfl (by decide) ?_
      change Sim l G Y_L_law lim _ _ 1799 [some (.inr (.inr 4000)), some (.inr (.inr x1)), some (.inr (.inr x2)), some (.inl x3)] [] M
      exact s_lsub (ls' := [some (.inr (.inr 4000)), some (.inr (.inr x1)), some (.inr (.inr x2)), some (.inl x3)]) ⟨rfl, ⟨rfl, ⟨rfl, ⟨rfl, trivial⟩⟩⟩⟩ (J_L_law_1799 M x1 x2 x3  K kk1 kk2_0)
    refine s_ite (fun h41 => ?_) (fun h41 => ?_)
    · refine s_tabIn (off := 1789) (tgt := 1822)  (38 : Int32) dsw_L_law_33 h41 rfl rfl rfl (by decide) ?_
      change Sim l G Y_L_law lim _ _ 1822 [some (.inr (.inr 4000)), some (.inr (.inr x1)), some (.inr (.inr x2)), some (.inl x3)] [] M
      exact s_lsub (ls' := [some (.inr (.inr 4000)), some (.inr (.inr x1)), some (.inr (.inr x2)), some (.inl x3)]) ⟨rfl, ⟨rfl, ⟨rfl, ⟨rfl, trivial⟩⟩⟩⟩ (J_L_law_1822 M x1 x2 x3  K kk1 kk2_0)
    refine s_tabOut (tgt := 1845)  dsw_L_law_33 (tab_out (fun k hk => match k, hk with | 0, _ => i32_ne h3 (by decide) | 1, _ => i32_ne h4 (by decide) | 2, _ => i32_ne h5 (by decide) | 3, _ => i32_ne h6 (by decide) | 4, _ => i32_ne h7 (by decide) | 5, _ => i32_ne h8 (by decide) | 6, _ => i32_ne h9 (by decide) | 7, _ => i32_ne h10 (by decide) | 8, _ => i32_ne h11 (by decide) | 9, _ => i32_ne h12 (by decide) | 10, _ => i32_ne h13 (by decide) | 11, _ => i32_ne h14 (by decide) | 12, _ => i32_ne h15 (by decide) | 13, _ => i32_ne h16 (by decide) | 14, _ => i32_ne h17 (by decide) | 15, _ => i32_ne h18 (by decide) | 16, _ => i32_ne h19 (by decide) | 17, _ => i32_ne h20 (by decide) | 18, _ => i32_ne h21 (by decide) | 19, _ => i32_ne h22 (by decide) | 20, _ => i32_ne h23 (by decide) | 21, _ => i32_ne h24 (by decide) | 22, _ => i32_ne h25 (by decide) | 23, _ => i32_ne h26 (by decide) | 24, _ => i32_ne h27 (by decide) | 25, _ => i32_ne h28 (by decide) | 26, _ => i32_ne h29 (by decide) | 27, _ => i32_ne h30 (by decide) | 28, _ => i32_ne h31 (by decide) | 29, _ => i32_ne h32 (by decide) | 30, _ => i32_ne h33 (by decide) | 31, _ => i32_ne h34 (by decide) | 32, _ => i32_ne h35 (by decide) | 33, _ => i32_ne h36 (by decide) | 34, _ => i32_ne h37 (by decide) | 35, _ => i32_ne h38 (by decide) | 36, _ => i32_ne h39 (by decide) | 37, _ => i32_ne h40 (by decide) | 38, _ => i32_ne h41 (by decide) | k + 39, hk => absurd hk (by omega))) (by decide) ?_
    change Sim l G Y_L_law lim _ _ 1845 [some (.inr (.inr 4000)), some (.inr (.inr x1)), some (.inr (.inr x2)), some (.inl x3)] [] M
    refine s_run (b := [(.iinc 3 6, 3), (.goto (-1830), 3)]) 18 [some (.inr (.inr 4000)), some (.inr (.inr x1)), some (.inr (.inr x2)), some (.inl (x3 + (6 : Int32)))] [] (by decide +kernel) rfl ?_
    exact s_lsub (ls' := [some (.inr (.inr 4000)), some (.inr (.inr x1)), some (.inr (.inr x2)), some (.inl (x3 + (6 : Int32)))]) ⟨rfl, ⟨rfl, ⟨rfl, ⟨rfl, trivial⟩⟩⟩⟩ (kk1 (x3 + (6 : Int32)) M)
set_option maxHeartbeats 8000000 in
set_option maxRecDepth 20000 in
theorem L_L_law_18 {l : Launch} {G : Gv} {lim : Nat × Nat} (M : Mem) (x1 : Nat) (x2 : Nat) (x3 : Int32) (K : ((Mem)) → Option (Option Value × Mem)) (kk2_0 : ∀ r : Mem, SimR l G Y_L_law lim (K r) 1851 [none, none, none, none] [] r) : Sim l G Y_L_law lim (f_L_law_L18 lim G.2.2.2.2 M x1 x2 x3) K 18 [some (.inr (.inr 4000)), some (.inr (.inr x1)), some (.inr (.inr x2)), some (.inl x3)] [] M :=
  s_iter (f := fun s : Int32 × Mem => f_L_law_B18 lim G.2.2.2.2 s.2 x1 x2 s.1) (hd := 18) (cl := fun s => [some (.inr (.inr 4000)), some (.inr (.inr x1)), some (.inr (.inr x2)), some (.inl s.1)]) (cm := fun s => s.2) (xp := fun _ => 1851) (xl := fun r => [none, none, none, none]) (xm := fun r => r) (fun s K h1 h2 => B_L_law_18 s.2 x1 x2 s.1 K (fun a3 a_ => h1 (a3, a_)) (fun a_ => h2 a_)) 1048576 (x3, M) K kk2_0
def f_L_law (lim : Nat × Nat) (X : List Int32) (M : Mem) : Option (Mem) :=
  (newS lim M (.inl 11)).bind fun z1 =>
  (ob z1.2 11 z1.1).bind fun _ => (rmS lim z1.2 253 8967).bind fun _ => (f_X11_init z1.2 z1.1).bind fun M2 =>
  (newS lim M2 (.inl 12)).bind fun z3 =>
  (ob z3.2 12 z3.1).bind fun _ => (rmS lim z3.2 14 7356).bind fun _ => (f_X12_init z3.2 z3.1).bind fun M4 =>
  (f_L_law_L18 lim X M4 z1.1 z3.1 (0 : Int32)).bind fun r5 =>
  some r5
set_option maxHeartbeats 8000000 in
set_option maxRecDepth 20000 in
theorem S_L_law {l : Launch} {G : Gv} {lim : Nat × Nat} (M : Mem) : Sim l G Y_L_law lim (f_L_law lim G.2.2.2.2 M) (fun z => some (some (.int 1), z)) 0 [some (.inr (.inr 4000)), none, none, none] [] M := by
  unfold f_L_law
  refine s_newZ (c := 11) rfl q21 q22 q1 (by decide +kernel) (fun z1 => ?_)
  refine s_run (b := [(.dup, 1)]) 4 [some (.inr (.inr 4000)), none, none, none] [.inr (.inr z1.1), .inr (.inr z1.1)] (by decide +kernel) rfl ?_
  refine s_cI (Z := Y_X11_init) (vs := []) (st := [.inr (.inr z1.1)]) zk_X11_init ⟨rfl, q24, rfl⟩ q23 ⟨by decide, by decide⟩ rfl rfl (Nat.le_of_ble_eq_true rfl) (by decide +kernel) (fun z hz => c_X11_init hz) (fun M2 => ?_)
  refine s_run (b := [(.astore_n 1, 1)]) 8 [some (.inr (.inr 4000)), some (.inr (.inr z1.1)), none, none] [] (by decide +kernel) rfl ?_
  refine s_newZ (c := 12) rfl q1311 q1312 q13 (by decide +kernel) (fun z3 => ?_)
  refine s_run (b := [(.dup, 1)]) 12 [some (.inr (.inr 4000)), some (.inr (.inr z1.1)), none, none] [.inr (.inr z3.1), .inr (.inr z3.1)] (by decide +kernel) rfl ?_
  refine s_cI (Z := Y_X12_init) (vs := []) (st := [.inr (.inr z3.1)]) zk_X12_init ⟨rfl, q1314, rfl⟩ q1313 ⟨by decide, by decide⟩ rfl rfl (Nat.le_of_ble_eq_true rfl) (by decide +kernel) (fun z hz => c_X12_init hz) (fun M4 => ?_)
  refine s_run (b := [(.astore_n 2, 1), (.iconst 0, 1), (.istore_n 3, 1)]) 18 [some (.inr (.inr 4000)), some (.inr (.inr z1.1)), some (.inr (.inr z3.1)), some (.inl (0 : Int32))] [] (by decide +kernel) rfl ?_
  refine s_lsub (ls' := [some (.inr (.inr 4000)), some (.inr (.inr z1.1)), some (.inr (.inr z3.1)), some (.inl (0 : Int32))]) ⟨rfl, ⟨rfl, ⟨rfl, ⟨rfl, trivial⟩⟩⟩⟩ ?_
  refine sim_bind (L_L_law_18 M4 z1.1 z3.1 (0 : Int32) _ (fun r5 => ?_))
  change Sim l G Y_L_law lim _ _ 1851 [none, none, none, none] [] r5
  refine s_run (b := [(.iconst 1, 1)]) 1852 [none, none, none, none] [.inl (1 : Int32)] (by decide +kernel) rfl ?_
  exact s_bret (Or.inr rfl) (by decide +kernel) rfl
