def f_X11_duty_J51 (M : Mem) (x0 : Nat) (x2 : Int32) (x3 : Int32) (x4 : Nat)  : Option (Int32 × Mem) :=
  (gR M 11 x0 9).bind fun v1 =>
  (ob M 6 v1).bind fun _ => (f_X6_planDuty M v1 x4 x2).bind fun z2 =>
  (if x3 = (-1 : Int32) then
    (gR z2 11 x0 9).bind fun v4 =>
    (gI z2 6 v4 0).bind fun v5 =>
    some (v5, z2)
  else
    (gR z2 11 x0 9).bind fun v6 =>
    (gR z2 6 v6 2).bind fun v7 =>
    (aI z2 0 v7 x3).bind fun v8 =>
    some (v8, z2))
set_option maxRecDepth 20000 in
theorem J_X11_duty_51 {l : Launch} {G : Gv} {lim : Nat × Nat} (M : Mem) (x0 : Nat) (x2 : Int32) (x3 : Int32) (x4 : Nat)   : Sim l G Y_X11_duty lim (f_X11_duty_J51 M x0 x2 x3 x4) (fun z => some (some (.int z.1), z.2)) 51 [some (.inr (.inr x0)), none, some (.inl x2), some (.inl x3), some (.inr (.inr x4))] [] M := by
  unfold f_X11_duty_J51
  refine s_run (b := [(.aload_n 0, 1)]) 52 [some (.inr (.inr x0)), none, some (.inl x2), some (.inl x3), some (.inr (.inr x4))] [.inr (.inr x0)] (by decide +kernel) rfl ?_
  refine s_gR fl_11_69 rfl (by decide +kernel) (fun v1 => ?_)
  refine s_run (b := [(.aload 4, 2), (.iload_n 2, 1)]) 58 [some (.inr (.inr x0)), none, some (.inl x2), some (.inl x3), some (.inr (.inr x4))] [.inl x2, .inr (.inr x4), .inr (.inr v1)] (by decide +kernel) rfl ?_
  refine s_cV (Z := Y_X6_planDuty) (c := 6) (vs := [.inr (.inr x4), .inl x2]) (st := []) (rO := fun _ => none) (mO := fun z => z) zk_X6_planDuty zi_X6_planDuty q1243 rfl ⟨by decide, by decide⟩ ⟨rfl, rfl⟩ rfl rfl (Nat.le_of_ble_eq_true rfl) (by decide +kernel) (fun z hz => c_X6_planDuty hz) (fun z2 => ?_)
  change Sim l G Y_X11_duty lim _ _ 61 [some (.inr (.inr x0)), none, some (.inl x2), some (.inl x3), some (.inr (.inr x4))] [] z2
  refine s_run (b := [(.iload_n 3, 1), (.iconst (-1), 1)]) 63 [some (.inr (.inr x0)), none, some (.inl x2), some (.inl x3), some (.inr (.inr x4))] [.inl (-1 : Int32), .inl x3] (by decide +kernel) rfl ?_
  refine s_ic_ne (tgt := 76) (off := 13) (by decide +kernel) (by decide) (fun h3 => ?_) (fun h3 => ?_)
  · skip
    refine s_run (b := [(.aload_n 0, 1)]) 67 [some (.inr (.inr x0)), none, some (.inl x2), some (.inl x3), some (.inr (.inr x4))] [.inr (.inr x0)] (by decide +kernel) rfl ?_
    refine s_gR fl_11_69 rfl (by decide +kernel) (fun v4 => ?_)
    refine s_gI fl_11_224 rfl (by decide +kernel) (fun v5 => ?_)
    refine s_run (b := [(.goto 12, 3)]) 85 [some (.inr (.inr x0)), none, some (.inl x2), some (.inl x3), some (.inr (.inr x4))] [.inl v5] (by decide +kernel) rfl ?_
    exact s_iret (by decide +kernel) rfl
  · skip
    refine s_run (b := [(.aload_n 0, 1)]) 77 [some (.inr (.inr x0)), none, some (.inl x2), some (.inl x3), some (.inr (.inr x4))] [.inr (.inr x0)] (by decide +kernel) rfl ?_
    refine s_gR fl_11_69 rfl (by decide +kernel) (fun v6 => ?_)
    refine s_gR fl_11_274 rfl (by decide +kernel) (fun v7 => ?_)
    refine s_run (b := [(.iload_n 3, 1)]) 84 [some (.inr (.inr x0)), none, some (.inl x2), some (.inl x3), some (.inr (.inr x4))] [.inl x3, .inr (.inr v7)] (by decide +kernel) rfl ?_
    refine s_ia (by decide +kernel) (fun v8 => ?_)
    exact s_iret (by decide +kernel) rfl
def f_X11_duty (M : Mem) (x0 : Nat) (x1 : Int32) (x2 : Int32) (x3 : Int32) : Option (Int32 × Mem) :=
  (gR M 11 x0 0).bind fun v1 =>
  (ob M 9 v1).bind fun _ => (f_X9_officeAt M v1 x1).bind fun v2 =>
  (if v2 = 0 then
    some ((-1 : Int32), M)
  else
    (if x2 < 0 then
      some ((-1 : Int32), M)
    else
      (if (20 : Int32) < x2 then
        some ((-1 : Int32), M)
      else
        (if x3 < (-1 : Int32) then
          some ((-1 : Int32), M)
        else
          (if x3 < x2 then
            (if x2 ≤ 0 then
              f_X11_duty_J51 M x0 x2 x3 v2 
            else
              (gI M 5 v2 0).bind fun v9 =>
              (if v9 = 0 then
                some ((-1 : Int32), M)
              else
                f_X11_duty_J51 M x0 x2 x3 v2 ))
          else
            some ((-1 : Int32), M))))))
set_option maxRecDepth 20000 in
theorem S_X11_duty {l : Launch} {G : Gv} {lim : Nat × Nat} (M : Mem) (x0 : Nat) (x1 : Int32) (x2 : Int32) (x3 : Int32) : Sim l G Y_X11_duty lim (f_X11_duty M x0 x1 x2 x3) (fun z => some (some (.int z.1), z.2)) 0 [some (.inr (.inr x0)), some (.inl x1), some (.inl x2), some (.inl x3), none] [] M := by
  unfold f_X11_duty
  refine s_run (b := [(.aload_n 0, 1)]) 1 [some (.inr (.inr x0)), some (.inl x1), some (.inl x2), some (.inl x3), none] [.inr (.inr x0)] (by decide +kernel) rfl ?_
  refine s_gR fl_11_10 rfl (by decide +kernel) (fun v1 => ?_)
  refine s_run (b := [(.iload_n 1, 1)]) 5 [some (.inr (.inr x0)), some (.inl x1), some (.inl x2), some (.inl x3), none] [.inl x1, .inr (.inr v1)] (by decide +kernel) rfl ?_
  refine s_cV (Z := Y_X9_officeAt) (c := 9) (vs := [.inl x1]) (st := []) (rO := fun z => some (.inr (.inr z))) (mO := fun _ => M) zk_X9_officeAt zi_X9_officeAt q716 rfl ⟨by decide, by decide⟩ ⟨rfl, rfl⟩ rfl rfl (Nat.le_of_ble_eq_true rfl) (by decide +kernel) (fun z hz => c_X9_officeAt hz) (fun v2 => ?_)
  change Sim l G Y_X11_duty lim _ _ 8 [some (.inr (.inr x0)), some (.inl x1), some (.inl x2), some (.inl x3), none] [.inr (.inr v2)] M
  refine s_run (b := [(.astore 4, 2), (.aload 4, 2)]) 12 [some (.inr (.inr x0)), some (.inl x1), some (.inl x2), some (.inl x3), some (.inr (.inr v2))] [.inr (.inr v2)] (by decide +kernel) rfl ?_
  refine s_ifnull (tgt := 35) (off := 23) (by decide +kernel) (by decide) (fun h3 => ?_) (fun h3 => ?_)
  · skip
    refine s_run (b := [(.iconst (-1), 1)]) 36 [some (.inr (.inr x0)), some (.inl x1), some (.inl x2), some (.inl x3), some (.inr (.inr v2))] [.inl (-1 : Int32)] (by decide +kernel) rfl ?_
    exact s_iret (by decide +kernel) rfl
  · skip
    refine s_run (b := [(.iload_n 2, 1)]) 16 [some (.inr (.inr x0)), some (.inl x1), some (.inl x2), some (.inl x3), some (.inr (.inr v2))] [.inl x2] (by decide +kernel) rfl ?_
    refine s_if_lt (tgt := 35) (off := 19) (by decide +kernel) (by decide) (fun h4 => ?_) (fun h4 => ?_)
    · skip
      refine s_run (b := [(.iconst (-1), 1)]) 36 [some (.inr (.inr x0)), some (.inl x1), some (.inl x2), some (.inl x3), some (.inr (.inr v2))] [.inl (-1 : Int32)] (by decide +kernel) rfl ?_
      exact s_iret (by decide +kernel) rfl
    · skip
      refine s_run (b := [(.iload_n 2, 1), (.bipush 20, 2)]) 22 [some (.inr (.inr x0)), some (.inl x1), some (.inl x2), some (.inl x3), some (.inr (.inr v2))] [.inl (20 : Int32), .inl x2] (by decide +kernel) rfl ?_
      refine s_ic_gt (tgt := 35) (off := 13) (by decide +kernel) (by decide) (fun h5 => ?_) (fun h5 => ?_)
      · skip
        refine s_run (b := [(.iconst (-1), 1)]) 36 [some (.inr (.inr x0)), some (.inl x1), some (.inl x2), some (.inl x3), some (.inr (.inr v2))] [.inl (-1 : Int32)] (by decide +kernel) rfl ?_
        exact s_iret (by decide +kernel) rfl
      · skip
        refine s_run (b := [(.iload_n 3, 1), (.iconst (-1), 1)]) 27 [some (.inr (.inr x0)), some (.inl x1), some (.inl x2), some (.inl x3), some (.inr (.inr v2))] [.inl (-1 : Int32), .inl x3] (by decide +kernel) rfl ?_
        refine s_ic_lt (tgt := 35) (off := 8) (by decide +kernel) (by decide) (fun h6 => ?_) (fun h6 => ?_)
        · skip
          refine s_run (b := [(.iconst (-1), 1)]) 36 [some (.inr (.inr x0)), some (.inl x1), some (.inl x2), some (.inl x3), some (.inr (.inr v2))] [.inl (-1 : Int32)] (by decide +kernel) rfl ?_
          exact s_iret (by decide +kernel) rfl
        · skip
          refine s_run (b := [(.iload_n 3, 1), (.iload_n 2, 1)]) 32 [some (.inr (.inr x0)), some (.inl x1), some (.inl x2), some (.inl x3), some (.inr (.inr v2))] [.inl x2, .inl x3] (by decide +kernel) rfl ?_
          refine s_ic_lt (tgt := 37) (off := 5) (by decide +kernel) (by decide) (fun h7 => ?_) (fun h7 => ?_)
          · skip
            refine s_run (b := [(.iload_n 2, 1)]) 38 [some (.inr (.inr x0)), some (.inl x1), some (.inl x2), some (.inl x3), some (.inr (.inr v2))] [.inl x2] (by decide +kernel) rfl ?_
            refine s_if_le (tgt := 51) (off := 13) (by decide +kernel) (by decide) (fun h8 => ?_) (fun h8 => ?_)
            · skip
              exact s_lsub (ls' := [some (.inr (.inr x0)), none, some (.inl x2), some (.inl x3), some (.inr (.inr v2))]) ⟨rfl, ⟨rfl, ⟨rfl, ⟨rfl, trivial⟩⟩⟩⟩ (J_X11_duty_51 M x0 x2 x3 v2 )
            · skip
              refine s_run (b := [(.aload 4, 2)]) 43 [some (.inr (.inr x0)), some (.inl x1), some (.inl x2), some (.inl x3), some (.inr (.inr v2))] [.inr (.inr v2)] (by decide +kernel) rfl ?_
              refine s_gI fl_11_214 rfl (by decide +kernel) (fun v9 => ?_)
              refine s_if_ne (tgt := 51) (off := 5) (by decide +kernel) (by decide) (fun h10 => ?_) (fun h10 => ?_)
              · skip
                refine s_run (b := [(.iconst (-1), 1)]) 50 [some (.inr (.inr x0)), some (.inl x1), some (.inl x2), some (.inl x3), some (.inr (.inr v2))] [.inl (-1 : Int32)] (by decide +kernel) rfl ?_
                exact s_iret (by decide +kernel) rfl
              · skip
                exact s_lsub (ls' := [some (.inr (.inr x0)), none, some (.inl x2), some (.inl x3), some (.inr (.inr v2))]) ⟨rfl, ⟨rfl, ⟨rfl, ⟨rfl, trivial⟩⟩⟩⟩ (J_X11_duty_51 M x0 x2 x3 v2 )
          · skip
            refine s_run (b := [(.iconst (-1), 1)]) 36 [some (.inr (.inr x0)), some (.inl x1), some (.inl x2), some (.inl x3), some (.inr (.inr v2))] [.inl (-1 : Int32)] (by decide +kernel) rfl ?_
            exact s_iret (by decide +kernel) rfl
set_option maxRecDepth 20000 in
theorem c_X11_duty {l : Launch} {G : Gv} {M : Mem} {x0 : Nat} {x1 : Int32} {x2 : Int32} {x3 : Int32} {z : Int32 × Mem} (h : f_X11_duty M x0 x1 x2 x3 = some z) : MetS l G Y_X11_duty [.inr (.inr x0), .inl x1, .inl x2, .inl x3] M (some (.int z.1)) z.2 :=
  met_of (ls0 := [some (.inr (.inr x0)), some (.inl x1), some (.inl x2), some (.inl x3), none]) (by decide) rfl (lv_in (m := 1) rfl) (sl_le (Nat.le_of_ble_eq_true rfl)) (by rw [h]; rfl) (Or.inl ⟨rfl, rfl⟩) (S_X11_duty M x0 x1 x2 x3)
def f_X5_leastEar_B4 (M : Mem) (x0 : Nat) (x1 : Int32) (x2 : Int32) : Option ((Int32 × Int32) ⊕ ((Unit) ⊕ (Int32))) :=
  (gI M 5 x0 0).bind fun v1 =>
  (if v1 ≤ x2 then
    some (.inr (.inr x1))
  else
    (ob M 5 x0).bind fun _ => (f_X5_othersThan M x0 x2).bind fun v3 =>
    (ob M 5 x0).bind fun _ => (f_X5_nearestGap M x0 x2 v3).bind fun v4 =>
    (if v4 ≤ (30 : Int32) then
      some (.inl ((imax x1 v4), (x2 + (1 : Int32))))
    else
      some (.inr (.inl ()))))
def f_X5_leastEar_L4 (M : Mem) (x0 : Nat) (x1 : Int32) (x2 : Int32) : Option ((Unit) ⊕ (Int32)) := iter (fun s : Int32 × Int32 => f_X5_leastEar_B4 M x0 s.1 s.2) 1048576 (x1, x2)
set_option maxRecDepth 20000 in
theorem B_X5_leastEar_4 {l : Launch} {G : Gv} {lim : Nat × Nat} (M : Mem) (x0 : Nat) (x1 : Int32) (x2 : Int32) (K : (Int32 × Int32) ⊕ ((Unit) ⊕ (Int32)) → Option (Option Value × Mem)) (kk1 : ∀ (s1 : Int32) (s2 : Int32), SimR l G Y_X5_leastEar lim (K (.inl (s1, s2))) 4 [some (.inr (.inr x0)), some (.inl s1), some (.inl s2), none] [] M) (kk2_0 : SimR l G Y_X5_leastEar lim (K (.inr (.inl ()))) 29 [none, none, none, none] [] M) (kk2_1 : ∀ (s1 : Int32), SimR l G Y_X5_leastEar lim (K (.inr (.inr s1))) 43 [none, some (.inl s1), none, none] [] M) : Sim l G Y_X5_leastEar lim (f_X5_leastEar_B4 M x0 x1 x2) K 4 [some (.inr (.inr x0)), some (.inl x1), some (.inl x2), none] [] M := by
  unfold f_X5_leastEar_B4
  refine s_run (b := [(.iload_n 2, 1), (.aload_n 0, 1)]) 6 [some (.inr (.inr x0)), some (.inl x1), some (.inl x2), none] [.inr (.inr x0), .inl x2] (by decide +kernel) rfl ?_
  refine s_gI fl_5_45 rfl (by decide +kernel) (fun v1 => ?_)
  refine s_ic_ge (tgt := 43) (off := 34) (by decide +kernel) (by decide) (fun h2 => ?_) (fun h2 => ?_)
  · skip
    exact s_lsub (ls' := [none, some (.inl x1), none, none]) ⟨rfl, trivial⟩ (kk2_1 x1)
  · skip
    refine s_run (b := [(.aload_n 0, 1), (.iload_n 2, 1), (.aload_n 0, 1), (.iload_n 2, 1)]) 16 [some (.inr (.inr x0)), some (.inl x1), some (.inl x2), none] [.inl x2, .inr (.inr x0), .inl x2, .inr (.inr x0)] (by decide +kernel) rfl ?_
    refine s_cV (Z := Y_X5_othersThan) (c := 5) (vs := [.inl x2]) (st := [.inl x2, .inr (.inr x0)]) (rO := fun z => some (.inl z)) (mO := fun _ => M) zk_X5_othersThan zi_X5_othersThan q1188 rfl ⟨by decide, by decide⟩ ⟨rfl, rfl⟩ rfl rfl (Nat.le_of_ble_eq_true rfl) (by decide +kernel) (fun z hz => c_X5_othersThan hz) (fun v3 => ?_)
    change Sim l G Y_X5_leastEar lim _ _ 19 [some (.inr (.inr x0)), some (.inl x1), some (.inl x2), none] [.inl v3, .inl x2, .inr (.inr x0)] M
    refine s_cV (Z := Y_X5_nearestGap) (c := 5) (vs := [.inl x2, .inl v3]) (st := []) (rO := fun z => some (.inl z)) (mO := fun _ => M) zk_X5_nearestGap zi_X5_nearestGap q1189 rfl ⟨by decide, by decide⟩ ⟨rfl, rfl⟩ rfl rfl (Nat.le_of_ble_eq_true rfl) (by decide +kernel) (fun z hz => c_X5_nearestGap hz) (fun v4 => ?_)
    change Sim l G Y_X5_leastEar lim _ _ 22 [some (.inr (.inr x0)), some (.inl x1), some (.inl x2), none] [.inl v4] M
    refine s_run (b := [(.istore_n 3, 1), (.iload_n 3, 1), (.bipush 30, 2)]) 26 [some (.inr (.inr x0)), some (.inl x1), some (.inl x2), some (.inl v4)] [.inl (30 : Int32), .inl v4] (by decide +kernel) rfl ?_
    refine s_ic_le (tgt := 31) (off := 5) (by decide +kernel) (by decide) (fun h5 => ?_) (fun h5 => ?_)
    · skip
      refine s_run (b := [(.iload_n 1, 1), (.iload_n 3, 1)]) 33 [some (.inr (.inr x0)), some (.inl x1), some (.inl x2), some (.inl v4)] [.inl v4, .inl x1] (by decide +kernel) rfl ?_
      refine s_imax q817 ⟨Nat.le_of_ble_eq_true rfl, Nat.le_of_ble_eq_true rfl⟩ (by decide +kernel) ?_
      change Sim l G Y_X5_leastEar lim _ _ 36 [some (.inr (.inr x0)), some (.inl x1), some (.inl x2), some (.inl v4)] [.inl (imax x1 v4)] M
      refine s_run (b := [(.istore_n 1, 1), (.iinc 2 1, 3), (.goto (-36), 3)]) 4 [some (.inr (.inr x0)), some (.inl (imax x1 v4)), some (.inl (x2 + (1 : Int32))), some (.inl v4)] [] (by decide +kernel) rfl ?_
      exact s_lsub (ls' := [some (.inr (.inr x0)), some (.inl (imax x1 v4)), some (.inl (x2 + (1 : Int32))), none]) ⟨rfl, ⟨rfl, ⟨rfl, trivial⟩⟩⟩ (kk1 (imax x1 v4) (x2 + (1 : Int32)))
    · skip
      exact s_lsub (ls' := [none, none, none, none]) trivial (kk2_0 )
set_option maxRecDepth 20000 in
theorem L_X5_leastEar_4 {l : Launch} {G : Gv} {lim : Nat × Nat} (M : Mem) (x0 : Nat) (x1 : Int32) (x2 : Int32) (K : ((Unit) ⊕ (Int32)) → Option (Option Value × Mem)) (kk2_0 : ∀ r : Unit, SimR l G Y_X5_leastEar lim (K (.inl r)) 29 [none, none, none, none] [] M) (kk2_1 : ∀ r : Int32, SimR l G Y_X5_leastEar lim (K (.inr r)) 43 [none, some (.inl r), none, none] [] M) : Sim l G Y_X5_leastEar lim (f_X5_leastEar_L4 M x0 x1 x2) K 4 [some (.inr (.inr x0)), some (.inl x1), some (.inl x2), none] [] M :=
  s_iter (f := fun s : Int32 × Int32 => f_X5_leastEar_B4 M x0 s.1 s.2) (hd := 4) (cl := fun s => [some (.inr (.inr x0)), some (.inl s.1), some (.inl s.2), none]) (cm := fun s => M) (xp := (fun r => match r with | .inl r => 29 | .inr r => 43)) (xl := (fun r => match r with | .inl r => [none, none, none, none] | .inr r => [none, some (.inl r), none, none])) (xm := (fun r => match r with | .inl r => M | .inr r => M)) (fun s K h1 h2 => B_X5_leastEar_4 M x0 s.1 s.2 K (fun a1 a2 => h1 (a1, a2)) (h2 (.inl ())) (fun a1 => h2 (.inr a1))) 1048576 (x1, x2) K (fun r => by
    rcases r with r | r
    · exact kk2_0 r
    · exact kk2_1 r)
def f_X5_leastEar (M : Mem) (x0 : Nat) : Option (Int32) :=
  ((f_X5_leastEar_L4 M x0 (0 : Int32) (0 : Int32)).bind fun r1 => match r1 with
  | .inl r1 => some (-1 : Int32)
  | .inr r1 => some r1)
set_option maxRecDepth 20000 in
theorem S_X5_leastEar {l : Launch} {G : Gv} {lim : Nat × Nat} (M : Mem) (x0 : Nat) : Sim l G Y_X5_leastEar lim (f_X5_leastEar M x0) (fun z => some (some (.int z), M)) 0 [some (.inr (.inr x0)), none, none, none] [] M := by
  unfold f_X5_leastEar
  refine s_run (b := [(.iconst 0, 1), (.istore_n 1, 1), (.iconst 0, 1), (.istore_n 2, 1)]) 4 [some (.inr (.inr x0)), some (.inl (0 : Int32)), some (.inl (0 : Int32)), none] [] (by decide +kernel) rfl ?_
  refine s_lsub (ls' := [some (.inr (.inr x0)), some (.inl (0 : Int32)), some (.inl (0 : Int32)), none]) ⟨rfl, ⟨rfl, ⟨rfl, trivial⟩⟩⟩ ?_
  refine sim_bind (L_X5_leastEar_4 M x0 (0 : Int32) (0 : Int32) _ (fun r1 => ?_) (fun r1 => ?_))
  · change Sim l G Y_X5_leastEar lim _ _ 29 [none, none, none, none] [] M
    refine s_run (b := [(.iconst (-1), 1)]) 30 [none, none, none, none] [.inl (-1 : Int32)] (by decide +kernel) rfl ?_
    exact s_iret (by decide +kernel) rfl
  · change Sim l G Y_X5_leastEar lim _ _ 43 [none, some (.inl r1), none, none] [] M
    refine s_run (b := [(.iload_n 1, 1)]) 44 [none, some (.inl r1), none, none] [.inl r1] (by decide +kernel) rfl ?_
    exact s_iret (by decide +kernel) rfl
set_option maxRecDepth 20000 in
theorem c_X5_leastEar {l : Launch} {G : Gv} {M : Mem} {x0 : Nat} {z : Int32} (h : f_X5_leastEar M x0 = some z) : MetS l G Y_X5_leastEar [.inr (.inr x0)] M (some (.int z)) M :=
  met_of (ls0 := [some (.inr (.inr x0)), none, none, none]) (by decide) rfl (lv_in (m := 3) rfl) (sl_le (Nat.le_of_ble_eq_true rfl)) (by rw [h]; rfl) (Or.inl ⟨rfl, rfl⟩) (S_X5_leastEar M x0)
def f_X11_ears (M : Mem) (x0 : Nat) (x1 : Int32) : Option (Int32) :=
  (gR M 11 x0 0).bind fun v1 =>
  (ob M 9 v1).bind fun _ => (f_X9_officeAt M v1 x1).bind fun v2 =>
  (if v2 = 0 then
    some (-1 : Int32)
  else
    (ob M 5 v2).bind fun _ => (f_X5_leastEar M v2).bind fun v4 =>
    some v4)
set_option maxRecDepth 20000 in
theorem S_X11_ears {l : Launch} {G : Gv} {lim : Nat × Nat} (M : Mem) (x0 : Nat) (x1 : Int32) : Sim l G Y_X11_ears lim (f_X11_ears M x0 x1) (fun z => some (some (.int z), M)) 0 [some (.inr (.inr x0)), some (.inl x1), none] [] M := by
  unfold f_X11_ears
  refine s_run (b := [(.aload_n 0, 1)]) 1 [some (.inr (.inr x0)), some (.inl x1), none] [.inr (.inr x0)] (by decide +kernel) rfl ?_
  refine s_gR fl_11_10 rfl (by decide +kernel) (fun v1 => ?_)
  refine s_run (b := [(.iload_n 1, 1)]) 5 [some (.inr (.inr x0)), some (.inl x1), none] [.inl x1, .inr (.inr v1)] (by decide +kernel) rfl ?_
  refine s_cV (Z := Y_X9_officeAt) (c := 9) (vs := [.inl x1]) (st := []) (rO := fun z => some (.inr (.inr z))) (mO := fun _ => M) zk_X9_officeAt zi_X9_officeAt q716 rfl ⟨by decide, by decide⟩ ⟨rfl, rfl⟩ rfl rfl (Nat.le_of_ble_eq_true rfl) (by decide +kernel) (fun z hz => c_X9_officeAt hz) (fun v2 => ?_)
  change Sim l G Y_X11_ears lim _ _ 8 [some (.inr (.inr x0)), some (.inl x1), none] [.inr (.inr v2)] M
  refine s_run (b := [(.astore_n 2, 1), (.aload_n 2, 1)]) 10 [some (.inr (.inr x0)), some (.inl x1), some (.inr (.inr v2))] [.inr (.inr v2)] (by decide +kernel) rfl ?_
  refine s_ifnonnull (tgt := 17) (off := 7) (by decide +kernel) (by decide) (fun h3 => ?_) (fun h3 => ?_)
  · skip
    refine s_run (b := [(.iconst (-1), 1), (.goto 7, 3)]) 21 [some (.inr (.inr x0)), some (.inl x1), some (.inr (.inr v2))] [.inl (-1 : Int32)] (by decide +kernel) rfl ?_
    exact s_iret (by decide +kernel) rfl
  · skip
    refine s_run (b := [(.aload_n 2, 1)]) 18 [some (.inr (.inr x0)), some (.inl x1), some (.inr (.inr v2))] [.inr (.inr v2)] (by decide +kernel) rfl ?_
    refine s_cV (Z := Y_X5_leastEar) (c := 5) (vs := []) (st := []) (rO := fun z => some (.inl z)) (mO := fun _ => M) zk_X5_leastEar zi_X5_leastEar q1184 rfl ⟨by decide, by decide⟩ ⟨rfl, rfl⟩ rfl rfl (Nat.le_of_ble_eq_true rfl) (by decide +kernel) (fun z hz => c_X5_leastEar hz) (fun v4 => ?_)
    change Sim l G Y_X11_ears lim _ _ 21 [some (.inr (.inr x0)), some (.inl x1), some (.inr (.inr v2))] [.inl v4] M
    exact s_iret (by decide +kernel) rfl
set_option maxRecDepth 20000 in
theorem c_X11_ears {l : Launch} {G : Gv} {M : Mem} {x0 : Nat} {x1 : Int32} {z : Int32} (h : f_X11_ears M x0 x1 = some z) : MetS l G Y_X11_ears [.inr (.inr x0), .inl x1] M (some (.int z)) M :=
  met_of (ls0 := [some (.inr (.inr x0)), some (.inl x1), none]) (by decide) rfl (lv_in (m := 1) rfl) (sl_le (Nat.le_of_ble_eq_true rfl)) (by rw [h]; rfl) (Or.inl ⟨rfl, rfl⟩) (S_X11_ears M x0 x1)
def f_X0_weightOf_B5 (M : Mem) (x0 : Nat) (x1 : Int32) (x2 : Int64) (x4 : Int32) : Option ((Int64 × Int32) ⊕ ((Int64))) :=
  (gI M 5 x0 0).bind fun v1 =>
  (if v1 ≤ x4 then
    some (.inr x2)
  else
    (if ((x1 >>> (x4 &&& 31)) &&& (1 : Int32)) = 0 then
      (gR M 5 x0 9).bind fun v4 =>
      (aI M 0 v4 x4).bind fun v5 =>
      some (.inl ((x2 * (Int32.toInt64 ((10 : Int32) - v5))), (x4 + (1 : Int32))))
    else
      (gR M 5 x0 9).bind fun v6 =>
      (aI M 0 v6 x4).bind fun v7 =>
      some (.inl ((x2 * (Int32.toInt64 v7)), (x4 + (1 : Int32))))))
def f_X0_weightOf_L5 (M : Mem) (x0 : Nat) (x1 : Int32) (x2 : Int64) (x4 : Int32) : Option ((Int64)) := iter (fun s : Int64 × Int32 => f_X0_weightOf_B5 M x0 x1 s.1 s.2) 1048576 (x2, x4)
set_option maxRecDepth 20000 in
theorem B_X0_weightOf_5 {l : Launch} {G : Gv} {lim : Nat × Nat} (M : Mem) (x0 : Nat) (x1 : Int32) (x2 : Int64) (x4 : Int32) (K : (Int64 × Int32) ⊕ ((Int64)) → Option (Option Value × Mem)) (kk1 : ∀ (s2 : Int64) (s4 : Int32), SimR l G Y_X0_weightOf lim (K (.inl (s2, s4))) 5 [some (.inr (.inr x0)), some (.inl x1), some (.inr (.inl s2)), none, some (.inl s4)] [] M) (kk2_0 : ∀ (s2 : Int64), SimR l G Y_X0_weightOf lim (K (.inr s2)) 54 [none, none, some (.inr (.inl s2)), none, none] [] M) : Sim l G Y_X0_weightOf lim (f_X0_weightOf_B5 M x0 x1 x2 x4) K 5 [some (.inr (.inr x0)), some (.inl x1), some (.inr (.inl x2)), none, some (.inl x4)] [] M := by
  unfold f_X0_weightOf_B5
  refine s_run (b := [(.iload 4, 2), (.aload_n 0, 1)]) 8 [some (.inr (.inr x0)), some (.inl x1), some (.inr (.inl x2)), none, some (.inl x4)] [.inr (.inr x0), .inl x4] (by decide +kernel) rfl ?_
  refine s_gI fl_0_61 rfl (by decide +kernel) (fun v1 => ?_)
  refine s_ic_ge (tgt := 54) (off := 43) (by decide +kernel) (by decide) (fun h2 => ?_) (fun h2 => ?_)
  · skip
    exact s_lsub (ls' := [none, none, some (.inr (.inl x2)), none, none]) ⟨rfl, trivial⟩ (kk2_0 x2)
  · skip
    refine s_run (b := [(.lload_n 2, 1), (.iload_n 1, 1), (.iload 4, 2), (.ishr, 1), (.iconst 1, 1), (.iand, 1)]) 21 [some (.inr (.inr x0)), some (.inl x1), some (.inr (.inl x2)), none, some (.inl x4)] [.inl ((x1 >>> (x4 &&& 31)) &&& (1 : Int32)), .inr (.inl x2)] (by decide +kernel) rfl ?_
    refine s_if_eq (tgt := 35) (off := 14) (by decide +kernel) (by decide) (fun h3 => ?_) (fun h3 => ?_)
    · skip
      refine s_run (b := [(.bipush 10, 2), (.aload_n 0, 1)]) 38 [some (.inr (.inr x0)), some (.inl x1), some (.inr (.inl x2)), none, some (.inl x4)] [.inr (.inr x0), .inl (10 : Int32), .inr (.inl x2)] (by decide +kernel) rfl ?_
      refine s_gR fl_0_83 rfl (by decide +kernel) (fun v4 => ?_)
      refine s_run (b := [(.iload 4, 2)]) 43 [some (.inr (.inr x0)), some (.inl x1), some (.inr (.inl x2)), none, some (.inl x4)] [.inl x4, .inr (.inr v4), .inl (10 : Int32), .inr (.inl x2)] (by decide +kernel) rfl ?_
      refine s_ia (by decide +kernel) (fun v5 => ?_)
      refine s_run (b := [(.isub, 1), (.i2l, 1), (.lmul, 1), (.lstore_n 2, 1), (.iinc 4 1, 3), (.goto (-46), 3)]) 5 [some (.inr (.inr x0)), some (.inl x1), some (.inr (.inl (x2 * (Int32.toInt64 ((10 : Int32) - v5))))), none, some (.inl (x4 + (1 : Int32)))] [] (by decide +kernel) rfl ?_
      exact s_lsub (ls' := [some (.inr (.inr x0)), some (.inl x1), some (.inr (.inl (x2 * (Int32.toInt64 ((10 : Int32) - v5))))), none, some (.inl (x4 + (1 : Int32)))]) ⟨rfl, ⟨rfl, ⟨rfl, ⟨rfl, trivial⟩⟩⟩⟩ (kk1 (x2 * (Int32.toInt64 ((10 : Int32) - v5))) (x4 + (1 : Int32)))
    · skip
      refine s_run (b := [(.aload_n 0, 1)]) 25 [some (.inr (.inr x0)), some (.inl x1), some (.inr (.inl x2)), none, some (.inl x4)] [.inr (.inr x0), .inr (.inl x2)] (by decide +kernel) rfl ?_
      refine s_gR fl_0_83 rfl (by decide +kernel) (fun v6 => ?_)
      refine s_run (b := [(.iload 4, 2)]) 30 [some (.inr (.inr x0)), some (.inl x1), some (.inr (.inl x2)), none, some (.inl x4)] [.inl x4, .inr (.inr v6), .inr (.inl x2)] (by decide +kernel) rfl ?_
      refine s_ia (by decide +kernel) (fun v7 => ?_)
      refine s_run (b := [(.i2l, 1), (.goto 14, 3), (.lmul, 1), (.lstore_n 2, 1), (.iinc 4 1, 3), (.goto (-46), 3)]) 5 [some (.inr (.inr x0)), some (.inl x1), some (.inr (.inl (x2 * (Int32.toInt64 v7)))), none, some (.inl (x4 + (1 : Int32)))] [] (by decide +kernel) rfl ?_
      exact s_lsub (ls' := [some (.inr (.inr x0)), some (.inl x1), some (.inr (.inl (x2 * (Int32.toInt64 v7)))), none, some (.inl (x4 + (1 : Int32)))]) ⟨rfl, ⟨rfl, ⟨rfl, ⟨rfl, trivial⟩⟩⟩⟩ (kk1 (x2 * (Int32.toInt64 v7)) (x4 + (1 : Int32)))
set_option maxRecDepth 20000 in
theorem L_X0_weightOf_5 {l : Launch} {G : Gv} {lim : Nat × Nat} (M : Mem) (x0 : Nat) (x1 : Int32) (x2 : Int64) (x4 : Int32) (K : ((Int64)) → Option (Option Value × Mem)) (kk2_0 : ∀ r : Int64, SimR l G Y_X0_weightOf lim (K r) 54 [none, none, some (.inr (.inl r)), none, none] [] M) : Sim l G Y_X0_weightOf lim (f_X0_weightOf_L5 M x0 x1 x2 x4) K 5 [some (.inr (.inr x0)), some (.inl x1), some (.inr (.inl x2)), none, some (.inl x4)] [] M :=
  s_iter (f := fun s : Int64 × Int32 => f_X0_weightOf_B5 M x0 x1 s.1 s.2) (hd := 5) (cl := fun s => [some (.inr (.inr x0)), some (.inl x1), some (.inr (.inl s.1)), none, some (.inl s.2)]) (cm := fun s => M) (xp := fun _ => 54) (xl := fun r => [none, none, some (.inr (.inl r)), none, none]) (xm := fun r => M) (fun s K h1 h2 => B_X0_weightOf_5 M x0 x1 s.1 s.2 K (fun a2 a4 => h1 (a2, a4)) (fun a2 => h2 a2)) 1048576 (x2, x4) K kk2_0
def f_X0_weightOf (M : Mem) (x0 : Nat) (x1 : Int32) : Option (Int64) :=
  (f_X0_weightOf_L5 M x0 x1 (1 : Int64) (0 : Int32)).bind fun r1 =>
  some r1
set_option maxRecDepth 20000 in
theorem S_X0_weightOf {l : Launch} {G : Gv} {lim : Nat × Nat} (M : Mem) (x0 : Nat) (x1 : Int32) : Sim l G Y_X0_weightOf lim (f_X0_weightOf M x0 x1) (fun z => some (some (.long z), M)) 0 [some (.inr (.inr x0)), some (.inl x1), none, none, none] [] M := by
  unfold f_X0_weightOf
  refine s_run (b := [(.lconst 1, 1), (.lstore_n 2, 1), (.iconst 0, 1), (.istore 4, 2)]) 5 [some (.inr (.inr x0)), some (.inl x1), some (.inr (.inl (1 : Int64))), none, some (.inl (0 : Int32))] [] (by decide +kernel) rfl ?_
  refine s_lsub (ls' := [some (.inr (.inr x0)), some (.inl x1), some (.inr (.inl (1 : Int64))), none, some (.inl (0 : Int32))]) ⟨rfl, ⟨rfl, ⟨rfl, ⟨rfl, trivial⟩⟩⟩⟩ ?_
  refine sim_bind (L_X0_weightOf_5 M x0 x1 (1 : Int64) (0 : Int32) _ (fun r1 => ?_))
  change Sim l G Y_X0_weightOf lim _ _ 54 [none, none, some (.inr (.inl r1)), none, none] [] M
  refine s_run (b := [(.lload_n 2, 1)]) 55 [none, none, some (.inr (.inl r1)), none, none] [.inr (.inl r1)] (by decide +kernel) rfl ?_
  exact s_lret (by decide +kernel) rfl
set_option maxRecDepth 20000 in
theorem c_X0_weightOf {l : Launch} {G : Gv} {M : Mem} {x0 : Nat} {x1 : Int32} {z : Int64} (h : f_X0_weightOf M x0 x1 = some z) : MetS l G Y_X0_weightOf [.inr (.inr x0), .inl x1] M (some (.long z)) M :=
  met_of (ls0 := [some (.inr (.inr x0)), some (.inl x1), none, none, none]) (by decide) rfl (lv_in (m := 3) rfl) (sl_le (Nat.le_of_ble_eq_true rfl)) (by rw [h]; rfl) (Or.inl ⟨rfl, rfl⟩) (S_X0_weightOf M x0 x1)
def f_X0_reckonHeads_B7 (M : Mem) (x0 : Nat) (x1 : Nat) (x2 : Int32) (x3 : Int32) : Option ((Int32 × Mem) ⊕ ((Mem))) :=
  (ob M 5 x1).bind fun _ => (f_X5_everybody M x1).bind fun v1 =>
  (if v1 < x3 then
    some (.inr M)
  else
    (f_J6_bitCount_0f7a4 M x3).bind fun v3 =>
    (if v3 = x2 then
      (gL M 0 x0 0).bind fun v5 =>
      (f_X0_weightOf M x1 x3).bind fun v6 =>
      (pL M 0 x0 0 (v5 + v6)).bind fun M7 =>
      some (.inl ((x3 + (1 : Int32)), M7))
    else
      some (.inl ((x3 + (1 : Int32)), M))))
def f_X0_reckonHeads_L7 (M : Mem) (x0 : Nat) (x1 : Nat) (x2 : Int32) (x3 : Int32) : Option ((Mem)) := iter (fun s : Int32 × Mem => f_X0_reckonHeads_B7 s.2 x0 x1 x2 s.1) 1048576 (x3, M)
set_option maxRecDepth 20000 in
theorem B_X0_reckonHeads_7 {l : Launch} {G : Gv} {lim : Nat × Nat} (M : Mem) (x0 : Nat) (x1 : Nat) (x2 : Int32) (x3 : Int32) (K : (Int32 × Mem) ⊕ ((Mem)) → Option (Option Value × Mem)) (kk1 : ∀ (s3 : Int32) (s_ : Mem), SimR l G Y_X0_reckonHeads lim (K (.inl (s3, s_))) 7 [some (.inr (.inr x0)), some (.inr (.inr x1)), some (.inl x2), some (.inl s3)] [] s_) (kk2_0 : ∀ (s_ : Mem), SimR l G Y_X0_reckonHeads lim (K (.inr s_)) 43 [some (.inr (.inr x0)), some (.inr (.inr x1)), none, none] [] s_) : Sim l G Y_X0_reckonHeads lim (f_X0_reckonHeads_B7 M x0 x1 x2 x3) K 7 [some (.inr (.inr x0)), some (.inr (.inr x1)), some (.inl x2), some (.inl x3)] [] M := by
  unfold f_X0_reckonHeads_B7
  refine s_run (b := [(.iload_n 3, 1), (.aload_n 1, 1)]) 9 [some (.inr (.inr x0)), some (.inr (.inr x1)), some (.inl x2), some (.inl x3)] [.inr (.inr x1), .inl x3] (by decide +kernel) rfl ?_
  refine s_cV (Z := Y_X5_everybody) (c := 5) (vs := []) (st := [.inl x3]) (rO := fun z => some (.inl z)) (mO := fun _ => M) zk_X5_everybody zi_X5_everybody q876 rfl ⟨by decide, by decide⟩ ⟨rfl, rfl⟩ rfl rfl (Nat.le_of_ble_eq_true rfl) (by decide +kernel) (fun z hz => c_X5_everybody hz) (fun v1 => ?_)
  change Sim l G Y_X0_reckonHeads lim _ _ 12 [some (.inr (.inr x0)), some (.inr (.inr x1)), some (.inl x2), some (.inl x3)] [.inl v1, .inl x3] M
  refine s_ic_gt (tgt := 43) (off := 31) (by decide +kernel) (by decide) (fun h2 => ?_) (fun h2 => ?_)
  · skip
    exact s_lsub (ls' := [some (.inr (.inr x0)), some (.inr (.inr x1)), none, none]) ⟨rfl, ⟨rfl, trivial⟩⟩ (kk2_0 M)
  · skip
    refine s_run (b := [(.iload_n 3, 1)]) 16 [some (.inr (.inr x0)), some (.inr (.inr x1)), some (.inl x2), some (.inl x3)] [.inl x3] (by decide +kernel) rfl ?_
    refine s_cS (Z := Y_J6_bitCount_0f7a4) (vs := [.inl x3]) (st := []) (rO := fun z => some (.inl z)) (mO := fun _ => M) zk_J6_bitCount_0f7a4 q819 q1272 ⟨by decide, by decide⟩ ⟨rfl, rfl⟩ rfl rfl (Nat.le_of_ble_eq_true rfl) (by decide +kernel) (fun z hz => c_J6_bitCount_0f7a4 hz) (fun v3 => ?_)
    change Sim l G Y_X0_reckonHeads lim _ _ 19 [some (.inr (.inr x0)), some (.inr (.inr x1)), some (.inl x2), some (.inl x3)] [.inl v3] M
    refine s_run (b := [(.iload_n 2, 1)]) 20 [some (.inr (.inr x0)), some (.inr (.inr x1)), some (.inl x2), some (.inl x3)] [.inl x2, .inl v3] (by decide +kernel) rfl ?_
    refine s_ic_ne (tgt := 37) (off := 17) (by decide +kernel) (by decide) (fun h4 => ?_) (fun h4 => ?_)
    · skip
      refine s_run (b := [(.aload_n 0, 1), (.dup, 1)]) 25 [some (.inr (.inr x0)), some (.inr (.inr x1)), some (.inl x2), some (.inl x3)] [.inr (.inr x0), .inr (.inr x0)] (by decide +kernel) rfl ?_
      refine s_gL fl_0_26 rfl (by decide +kernel) (fun v5 => ?_)
      refine s_run (b := [(.aload_n 1, 1), (.iload_n 3, 1)]) 30 [some (.inr (.inr x0)), some (.inr (.inr x1)), some (.inl x2), some (.inl x3)] [.inl x3, .inr (.inr x1), .inr (.inl v5), .inr (.inr x0)] (by decide +kernel) rfl ?_
      refine s_cS (Z := Y_X0_weightOf) (vs := [.inr (.inr x1), .inl x3]) (st := [.inr (.inl v5), .inr (.inr x0)]) (rO := fun z => some (.inr (.inl z))) (mO := fun _ => M) zk_X0_weightOf q878 q877 ⟨by decide, by decide⟩ ⟨rfl, rfl⟩ rfl rfl (Nat.le_of_ble_eq_true rfl) (by decide +kernel) (fun z hz => c_X0_weightOf hz) (fun v6 => ?_)
      change Sim l G Y_X0_reckonHeads lim _ _ 33 [some (.inr (.inr x0)), some (.inr (.inr x1)), some (.inl x2), some (.inl x3)] [.inr (.inl v6), .inr (.inl v5), .inr (.inr x0)] M
      refine s_run (b := [(.ladd, 1)]) 34 [some (.inr (.inr x0)), some (.inr (.inr x1)), some (.inl x2), some (.inl x3)] [.inr (.inl (v5 + v6)), .inr (.inr x0)] (by decide +kernel) rfl ?_
      refine s_pL fl_0_26 (Or.inl rfl) rfl (by decide +kernel) (fun M7 => ?_)
      refine s_run (b := [(.iinc 3 1, 3), (.goto (-33), 3)]) 7 [some (.inr (.inr x0)), some (.inr (.inr x1)), some (.inl x2), some (.inl (x3 + (1 : Int32)))] [] (by decide +kernel) rfl ?_
      exact s_lsub (ls' := [some (.inr (.inr x0)), some (.inr (.inr x1)), some (.inl x2), some (.inl (x3 + (1 : Int32)))]) ⟨rfl, ⟨rfl, ⟨rfl, ⟨rfl, trivial⟩⟩⟩⟩ (kk1 (x3 + (1 : Int32)) M7)
    · skip
      refine s_run (b := [(.iinc 3 1, 3), (.goto (-33), 3)]) 7 [some (.inr (.inr x0)), some (.inr (.inr x1)), some (.inl x2), some (.inl (x3 + (1 : Int32)))] [] (by decide +kernel) rfl ?_
      exact s_lsub (ls' := [some (.inr (.inr x0)), some (.inr (.inr x1)), some (.inl x2), some (.inl (x3 + (1 : Int32)))]) ⟨rfl, ⟨rfl, ⟨rfl, ⟨rfl, trivial⟩⟩⟩⟩ (kk1 (x3 + (1 : Int32)) M)
set_option maxRecDepth 20000 in
theorem L_X0_reckonHeads_7 {l : Launch} {G : Gv} {lim : Nat × Nat} (M : Mem) (x0 : Nat) (x1 : Nat) (x2 : Int32) (x3 : Int32) (K : ((Mem)) → Option (Option Value × Mem)) (kk2_0 : ∀ r : Mem, SimR l G Y_X0_reckonHeads lim (K r) 43 [some (.inr (.inr x0)), some (.inr (.inr x1)), none, none] [] r) : Sim l G Y_X0_reckonHeads lim (f_X0_reckonHeads_L7 M x0 x1 x2 x3) K 7 [some (.inr (.inr x0)), some (.inr (.inr x1)), some (.inl x2), some (.inl x3)] [] M :=
  s_iter (f := fun s : Int32 × Mem => f_X0_reckonHeads_B7 s.2 x0 x1 x2 s.1) (hd := 7) (cl := fun s => [some (.inr (.inr x0)), some (.inr (.inr x1)), some (.inl x2), some (.inl s.1)]) (cm := fun s => s.2) (xp := fun _ => 43) (xl := fun r => [some (.inr (.inr x0)), some (.inr (.inr x1)), none, none]) (xm := fun r => r) (fun s K h1 h2 => B_X0_reckonHeads_7 s.2 x0 x1 x2 s.1 K (fun a3 a_ => h1 (a3, a_)) (fun a_ => h2 a_)) 1048576 (x3, M) K kk2_0
def f_X0_reckonHeads (M : Mem) (x0 : Nat) (x1 : Nat) (x2 : Int32) : Option (Mem) :=
  (pL M 0 x0 0 (0 : Int64)).bind fun M1 =>
  (f_X0_reckonHeads_L7 M1 x0 x1 x2 (0 : Int32)).bind fun r2 =>
  (gI r2 5 x1 0).bind fun v3 =>
  (f_X0_tenTo r2 v3).bind fun v4 =>
  (pL r2 0 x0 1 v4).bind fun M5 =>
  (ob M5 0 x0).bind fun _ => (f_X0_reduce M5 x0).bind fun z6 =>
  some z6
set_option maxRecDepth 20000 in
theorem S_X0_reckonHeads {l : Launch} {G : Gv} {lim : Nat × Nat} (M : Mem) (x0 : Nat) (x1 : Nat) (x2 : Int32) : Sim l G Y_X0_reckonHeads lim (f_X0_reckonHeads M x0 x1 x2) (fun z => some (none, z)) 0 [some (.inr (.inr x0)), some (.inr (.inr x1)), some (.inl x2), none] [] M := by
  unfold f_X0_reckonHeads
  refine s_run (b := [(.aload_n 0, 1), (.lconst 0, 1)]) 2 [some (.inr (.inr x0)), some (.inr (.inr x1)), some (.inl x2), none] [.inr (.inl (0 : Int64)), .inr (.inr x0)] (by decide +kernel) rfl ?_
  refine s_pL fl_0_26 (Or.inl rfl) rfl (by decide +kernel) (fun M1 => ?_)
  refine s_run (b := [(.iconst 0, 1), (.istore_n 3, 1)]) 7 [some (.inr (.inr x0)), some (.inr (.inr x1)), some (.inl x2), some (.inl (0 : Int32))] [] (by decide +kernel) rfl ?_
  refine s_lsub (ls' := [some (.inr (.inr x0)), some (.inr (.inr x1)), some (.inl x2), some (.inl (0 : Int32))]) ⟨rfl, ⟨rfl, ⟨rfl, ⟨rfl, trivial⟩⟩⟩⟩ ?_
  refine sim_bind (L_X0_reckonHeads_7 M1 x0 x1 x2 (0 : Int32) _ (fun r2 => ?_))
  change Sim l G Y_X0_reckonHeads lim _ _ 43 [some (.inr (.inr x0)), some (.inr (.inr x1)), none, none] [] r2
  refine s_run (b := [(.aload_n 0, 1), (.aload_n 1, 1)]) 45 [some (.inr (.inr x0)), some (.inr (.inr x1)), none, none] [.inr (.inr x1), .inr (.inr x0)] (by decide +kernel) rfl ?_
  refine s_gI fl_0_61 rfl (by decide +kernel) (fun v3 => ?_)
  refine s_cS (Z := Y_X0_tenTo) (vs := [.inl v3]) (st := [.inr (.inr x0)]) (rO := fun z => some (.inr (.inl z))) (mO := fun _ => r2) zk_X0_tenTo q890 q889 ⟨by decide, by decide⟩ ⟨rfl, rfl⟩ rfl rfl (Nat.le_of_ble_eq_true rfl) (by decide +kernel) (fun z hz => c_X0_tenTo hz) (fun v4 => ?_)
  change Sim l G Y_X0_reckonHeads lim _ _ 51 [some (.inr (.inr x0)), some (.inr (.inr x1)), none, none] [.inr (.inl v4), .inr (.inr x0)] r2
  refine s_pL fl_0_9 (Or.inl rfl) rfl (by decide +kernel) (fun M5 => ?_)
  refine s_run (b := [(.aload_n 0, 1)]) 55 [some (.inr (.inr x0)), some (.inr (.inr x1)), none, none] [.inr (.inr x0)] (by decide +kernel) rfl ?_
  refine s_cV (Z := Y_X0_reduce) (c := 0) (vs := []) (st := []) (rO := fun _ => none) (mO := fun z => z) zk_X0_reduce zi_X0_reduce q893 rfl ⟨by decide, by decide⟩ ⟨rfl, rfl⟩ rfl rfl (Nat.le_of_ble_eq_true rfl) (by decide +kernel) (fun z hz => c_X0_reduce hz) (fun z6 => ?_)
  change Sim l G Y_X0_reckonHeads lim _ _ 58 [some (.inr (.inr x0)), some (.inr (.inr x1)), none, none] [] z6
  exact s_vret (by decide +kernel) rfl
set_option maxRecDepth 20000 in
theorem c_X0_reckonHeads {l : Launch} {G : Gv} {M : Mem} {x0 : Nat} {x1 : Nat} {x2 : Int32} {z : Mem} (h : f_X0_reckonHeads M x0 x1 x2 = some z) : MetS l G Y_X0_reckonHeads [.inr (.inr x0), .inr (.inr x1), .inl x2] M none z :=
  met_of (ls0 := [some (.inr (.inr x0)), some (.inr (.inr x1)), some (.inl x2), none]) (by decide) rfl (lv_in (m := 1) rfl) (sl_le (Nat.le_of_ble_eq_true rfl)) (by rw [h]; rfl) (Or.inl ⟨rfl, rfl⟩) (S_X0_reckonHeads M x0 x1 x2)
def f_X11_empty_J28 (M : Mem)   : Option (Int64 × Mem) :=
  some ((-1 : Int64), M)
set_option maxRecDepth 20000 in
theorem J_X11_empty_28 {l : Launch} {G : Gv} {lim : Nat × Nat} (M : Mem)    : Sim l G Y_X11_empty lim (f_X11_empty_J28 M ) (fun z => some (some (.long z.1), z.2)) 28 [none, none, none, none, none] [] M := by
  unfold f_X11_empty_J28
  refine s_ldc2 q871 (by decide +kernel) ?_
  change Sim l G Y_X11_empty lim _ _ 31 [none, none, none, none, none] [.inr (.inl (-1 : Int64))] M
  exact s_lret (by decide +kernel) rfl
def f_X11_empty (M : Mem) (x0 : Nat) (x1 : Int32) (x2 : Int32) (x3 : Int32) : Option (Int64 × Mem) :=
  (gR M 11 x0 0).bind fun v1 =>
  (ob M 9 v1).bind fun _ => (f_X9_officeAt M v1 x1).bind fun v2 =>
  (if v2 = 0 then
    f_X11_empty_J28 M  
  else
    (if x2 < 0 then
      f_X11_empty_J28 M  
    else
      (gI M 5 v2 0).bind fun v5 =>
      (if x2 ≤ v5 then
        (gR M 11 x0 6).bind fun v7 =>
        (ob M 0 v7).bind fun _ => (f_X0_reckonHeads M v7 v2 x2).bind fun z8 =>
        (if x3 = 0 then
          (gR z8 11 x0 6).bind fun v10 =>
          (gL z8 0 v10 0).bind fun v11 =>
          some (v11, z8)
        else
          (gR z8 11 x0 6).bind fun v12 =>
          (gL z8 0 v12 1).bind fun v13 =>
          some (v13, z8))
      else
        f_X11_empty_J28 M  )))
set_option maxRecDepth 20000 in
theorem S_X11_empty {l : Launch} {G : Gv} {lim : Nat × Nat} (M : Mem) (x0 : Nat) (x1 : Int32) (x2 : Int32) (x3 : Int32) : Sim l G Y_X11_empty lim (f_X11_empty M x0 x1 x2 x3) (fun z => some (some (.long z.1), z.2)) 0 [some (.inr (.inr x0)), some (.inl x1), some (.inl x2), some (.inl x3), none] [] M := by
  unfold f_X11_empty
  refine s_run (b := [(.aload_n 0, 1)]) 1 [some (.inr (.inr x0)), some (.inl x1), some (.inl x2), some (.inl x3), none] [.inr (.inr x0)] (by decide +kernel) rfl ?_
  refine s_gR fl_11_10 rfl (by decide +kernel) (fun v1 => ?_)
  refine s_run (b := [(.iload_n 1, 1)]) 5 [some (.inr (.inr x0)), some (.inl x1), some (.inl x2), some (.inl x3), none] [.inl x1, .inr (.inr v1)] (by decide +kernel) rfl ?_
  refine s_cV (Z := Y_X9_officeAt) (c := 9) (vs := [.inl x1]) (st := []) (rO := fun z => some (.inr (.inr z))) (mO := fun _ => M) zk_X9_officeAt zi_X9_officeAt q716 rfl ⟨by decide, by decide⟩ ⟨rfl, rfl⟩ rfl rfl (Nat.le_of_ble_eq_true rfl) (by decide +kernel) (fun z hz => c_X9_officeAt hz) (fun v2 => ?_)
  change Sim l G Y_X11_empty lim _ _ 8 [some (.inr (.inr x0)), some (.inl x1), some (.inl x2), some (.inl x3), none] [.inr (.inr v2)] M
  refine s_run (b := [(.astore 4, 2), (.aload 4, 2)]) 12 [some (.inr (.inr x0)), some (.inl x1), some (.inl x2), some (.inl x3), some (.inr (.inr v2))] [.inr (.inr v2)] (by decide +kernel) rfl ?_
  refine s_ifnull (tgt := 28) (off := 16) (by decide +kernel) (by decide) (fun h3 => ?_) (fun h3 => ?_)
  · skip
    exact s_lsub (ls' := [none, none, none, none, none]) trivial (J_X11_empty_28 M  )
  · skip
    refine s_run (b := [(.iload_n 2, 1)]) 16 [some (.inr (.inr x0)), some (.inl x1), some (.inl x2), some (.inl x3), some (.inr (.inr v2))] [.inl x2] (by decide +kernel) rfl ?_
    refine s_if_lt (tgt := 28) (off := 12) (by decide +kernel) (by decide) (fun h4 => ?_) (fun h4 => ?_)
    · skip
      exact s_lsub (ls' := [none, none, none, none, none]) trivial (J_X11_empty_28 M  )
    · skip
      refine s_run (b := [(.iload_n 2, 1), (.aload 4, 2)]) 22 [some (.inr (.inr x0)), some (.inl x1), some (.inl x2), some (.inl x3), some (.inr (.inr v2))] [.inr (.inr v2), .inl x2] (by decide +kernel) rfl ?_
      refine s_gI fl_11_214 rfl (by decide +kernel) (fun v5 => ?_)
      refine s_ic_le (tgt := 32) (off := 7) (by decide +kernel) (by decide) (fun h6 => ?_) (fun h6 => ?_)
      · skip
        refine s_run (b := [(.aload_n 0, 1)]) 33 [some (.inr (.inr x0)), some (.inl x1), some (.inl x2), some (.inl x3), some (.inr (.inr v2))] [.inr (.inr x0)] (by decide +kernel) rfl ?_
        refine s_gR fl_11_48 rfl (by decide +kernel) (fun v7 => ?_)
        refine s_run (b := [(.aload 4, 2), (.iload_n 2, 1)]) 39 [some (.inr (.inr x0)), some (.inl x1), some (.inl x2), some (.inl x3), some (.inr (.inr v2))] [.inl x2, .inr (.inr v2), .inr (.inr v7)] (by decide +kernel) rfl ?_
        refine s_cV (Z := Y_X0_reckonHeads) (c := 0) (vs := [.inr (.inr v2), .inl x2]) (st := []) (rO := fun _ => none) (mO := fun z => z) zk_X0_reckonHeads zi_X0_reckonHeads q1268 rfl ⟨by decide, by decide⟩ ⟨rfl, rfl⟩ rfl rfl (Nat.le_of_ble_eq_true rfl) (by decide +kernel) (fun z hz => c_X0_reckonHeads hz) (fun z8 => ?_)
        change Sim l G Y_X11_empty lim _ _ 42 [some (.inr (.inr x0)), some (.inl x1), some (.inl x2), some (.inl x3), some (.inr (.inr v2))] [] z8
        refine s_run (b := [(.iload_n 3, 1)]) 43 [some (.inr (.inr x0)), some (.inl x1), some (.inl x2), some (.inl x3), some (.inr (.inr v2))] [.inl x3] (by decide +kernel) rfl ?_
        refine s_if_eq (tgt := 56) (off := 13) (by decide +kernel) (by decide) (fun h9 => ?_) (fun h9 => ?_)
        · skip
          refine s_run (b := [(.aload_n 0, 1)]) 57 [some (.inr (.inr x0)), some (.inl x1), some (.inl x2), some (.inl x3), some (.inr (.inr v2))] [.inr (.inr x0)] (by decide +kernel) rfl ?_
          refine s_gR fl_11_48 rfl (by decide +kernel) (fun v10 => ?_)
          refine s_gL fl_11_170 rfl (by decide +kernel) (fun v11 => ?_)
          exact s_lret (by decide +kernel) rfl
        · skip
          refine s_run (b := [(.aload_n 0, 1)]) 47 [some (.inr (.inr x0)), some (.inl x1), some (.inl x2), some (.inl x3), some (.inr (.inr v2))] [.inr (.inr x0)] (by decide +kernel) rfl ?_
          refine s_gR fl_11_48 rfl (by decide +kernel) (fun v12 => ?_)
          refine s_gL fl_11_166 rfl (by decide +kernel) (fun v13 => ?_)
          refine s_run (b := [(.goto 10, 3)]) 63 [some (.inr (.inr x0)), some (.inl x1), some (.inl x2), some (.inl x3), some (.inr (.inr v2))] [.inr (.inl v13)] (by decide +kernel) rfl ?_
          exact s_lret (by decide +kernel) rfl
      · skip
        exact s_lsub (ls' := [none, none, none, none, none]) trivial (J_X11_empty_28 M  )
set_option maxRecDepth 20000 in
theorem c_X11_empty {l : Launch} {G : Gv} {M : Mem} {x0 : Nat} {x1 : Int32} {x2 : Int32} {x3 : Int32} {z : Int64 × Mem} (h : f_X11_empty M x0 x1 x2 x3 = some z) : MetS l G Y_X11_empty [.inr (.inr x0), .inl x1, .inl x2, .inl x3] M (some (.long z.1)) z.2 :=
  met_of (ls0 := [some (.inr (.inr x0)), some (.inl x1), some (.inl x2), some (.inl x3), none]) (by decide) rfl (lv_in (m := 1) rfl) (sl_le (Nat.le_of_ble_eq_true rfl)) (by rw [h]; rfl) (Or.inl ⟨rfl, rfl⟩) (S_X11_empty M x0 x1 x2 x3)
def f_X11_end (M : Mem) (x0 : Nat) (x1 : Int32) : Option (Int32 × Mem) :=
  (if x1 < 0 then
    some ((-1 : Int32), M)
  else
    (gR M 11 x0 0).bind fun v2 =>
    (gI M 9 v2 1).bind fun v3 =>
    (if x1 ≤ v3 then
      (gR M 11 x0 0).bind fun v5 =>
      (pI M 9 v5 1 x1).bind fun M6 =>
      some (x1, M6)
    else
      some ((-1 : Int32), M)))
set_option maxRecDepth 20000 in
theorem S_X11_end {l : Launch} {G : Gv} {lim : Nat × Nat} (M : Mem) (x0 : Nat) (x1 : Int32) : Sim l G Y_X11_end lim (f_X11_end M x0 x1) (fun z => some (some (.int z.1), z.2)) 0 [some (.inr (.inr x0)), some (.inl x1)] [] M := by
  unfold f_X11_end
  refine s_run (b := [(.iload_n 1, 1)]) 1 [some (.inr (.inr x0)), some (.inl x1)] [.inl x1] (by decide +kernel) rfl ?_
  refine s_if_lt (tgt := 15) (off := 14) (by decide +kernel) (by decide) (fun h1 => ?_) (fun h1 => ?_)
  · skip
    refine s_run (b := [(.iconst (-1), 1)]) 16 [some (.inr (.inr x0)), some (.inl x1)] [.inl (-1 : Int32)] (by decide +kernel) rfl ?_
    exact s_iret (by decide +kernel) rfl
  · skip
    refine s_run (b := [(.iload_n 1, 1), (.aload_n 0, 1)]) 6 [some (.inr (.inr x0)), some (.inl x1)] [.inr (.inr x0), .inl x1] (by decide +kernel) rfl ?_
    refine s_gR fl_11_10 rfl (by decide +kernel) (fun v2 => ?_)
    refine s_gI fl_11_73 rfl (by decide +kernel) (fun v3 => ?_)
    refine s_ic_le (tgt := 17) (off := 5) (by decide +kernel) (by decide) (fun h4 => ?_) (fun h4 => ?_)
    · skip
      refine s_run (b := [(.aload_n 0, 1)]) 18 [some (.inr (.inr x0)), some (.inl x1)] [.inr (.inr x0)] (by decide +kernel) rfl ?_
      refine s_gR fl_11_10 rfl (by decide +kernel) (fun v5 => ?_)
      refine s_run (b := [(.iload_n 1, 1)]) 22 [some (.inr (.inr x0)), some (.inl x1)] [.inl x1, .inr (.inr v5)] (by decide +kernel) rfl ?_
      refine s_pI fl_11_73 (Or.inl rfl) rfl (by decide +kernel) (fun M6 => ?_)
      refine s_run (b := [(.iload_n 1, 1)]) 26 [some (.inr (.inr x0)), some (.inl x1)] [.inl x1] (by decide +kernel) rfl ?_
      exact s_iret (by decide +kernel) rfl
    · skip
      refine s_run (b := [(.iconst (-1), 1)]) 16 [some (.inr (.inr x0)), some (.inl x1)] [.inl (-1 : Int32)] (by decide +kernel) rfl ?_
      exact s_iret (by decide +kernel) rfl
set_option maxRecDepth 20000 in
theorem c_X11_end {l : Launch} {G : Gv} {M : Mem} {x0 : Nat} {x1 : Int32} {z : Int32 × Mem} (h : f_X11_end M x0 x1 = some z) : MetS l G Y_X11_end [.inr (.inr x0), .inl x1] M (some (.int z.1)) z.2 :=
  met_of (ls0 := [some (.inr (.inr x0)), some (.inl x1)]) (by decide) rfl (lv_in (m := 0) rfl) (sl_le (Nat.le_of_ble_eq_true rfl)) (by rw [h]; rfl) (Or.inl ⟨rfl, rfl⟩) (S_X11_end M x0 x1)
def f_X6_liftsAll_B2 (M : Mem) (x0 : Nat) (x1 : Nat) (x2 : Int32) (x3 : Int32) : Option ((Int32 × Mem) ⊕ ((Mem) ⊕ (Mem))) :=
  (gI M 5 x1 0).bind fun v1 =>
  (if v1 ≤ x3 then
    some (.inr (.inr M))
  else
    (gR M 6 x0 4).bind fun v3 =>
    (ob M 3 v3).bind fun _ => (f_X3_asTold M v3 x1 x3 x2 1000).bind fun z4 =>
    (gR z4 6 x0 4).bind fun v5 =>
    (gI z4 3 v5 0).bind fun v6 =>
    (if v6 = (-1 : Int32) then
      some (.inr (.inl z4))
    else
      some (.inl ((x3 + (1 : Int32)), z4))))
def f_X6_liftsAll_L2 (M : Mem) (x0 : Nat) (x1 : Nat) (x2 : Int32) (x3 : Int32) : Option ((Mem) ⊕ (Mem)) := iter (fun s : Int32 × Mem => f_X6_liftsAll_B2 s.2 x0 x1 x2 s.1) 1048576 (x3, M)
set_option maxRecDepth 20000 in
theorem B_X6_liftsAll_2 {l : Launch} {G : Gv} {lim : Nat × Nat} (M : Mem) (x0 : Nat) (x1 : Nat) (x2 : Int32) (x3 : Int32) (K : (Int32 × Mem) ⊕ ((Mem) ⊕ (Mem)) → Option (Option Value × Mem)) (kk1 : ∀ (s3 : Int32) (s_ : Mem), SimR l G Y_X6_liftsAll lim (K (.inl (s3, s_))) 2 [some (.inr (.inr x0)), some (.inr (.inr x1)), some (.inl x2), some (.inl s3)] [] s_) (kk2_0 : ∀ (s_ : Mem), SimR l G Y_X6_liftsAll lim (K (.inr (.inl s_))) 34 [none, none, none, none] [] s_) (kk2_1 : ∀ (s_ : Mem), SimR l G Y_X6_liftsAll lim (K (.inr (.inr s_))) 42 [none, none, none, none] [] s_) : Sim l G Y_X6_liftsAll lim (f_X6_liftsAll_B2 M x0 x1 x2 x3) K 2 [some (.inr (.inr x0)), some (.inr (.inr x1)), some (.inl x2), some (.inl x3)] [] M := by
  unfold f_X6_liftsAll_B2
  refine s_run (b := [(.iload_n 3, 1), (.aload_n 1, 1)]) 4 [some (.inr (.inr x0)), some (.inr (.inr x1)), some (.inl x2), some (.inl x3)] [.inr (.inr x1), .inl x3] (by decide +kernel) rfl ?_
  refine s_gI fl_6_54 rfl (by decide +kernel) (fun v1 => ?_)
  refine s_ic_ge (tgt := 42) (off := 35) (by decide +kernel) (by decide) (fun h2 => ?_) (fun h2 => ?_)
  · skip
    exact s_lsub (ls' := [none, none, none, none]) trivial (kk2_1 M)
  · skip
    refine s_run (b := [(.aload_n 0, 1)]) 11 [some (.inr (.inr x0)), some (.inr (.inr x1)), some (.inl x2), some (.inl x3)] [.inr (.inr x0)] (by decide +kernel) rfl ?_
    refine s_gR fl_6_25 rfl (by decide +kernel) (fun v3 => ?_)
    refine s_run (b := [(.aload_n 1, 1), (.iload_n 3, 1), (.iload_n 2, 1)]) 17 [some (.inr (.inr x0)), some (.inr (.inr x1)), some (.inl x2), some (.inl x3)] [.inl x2, .inl x3, .inr (.inr x1), .inr (.inr v3)] (by decide +kernel) rfl ?_
    refine s_gsN (j := 0) (by decide) (List.mem_of_getElem? (i := 16) rfl) (by decide +kernel) ?_
    change Sim l G Y_X6_liftsAll lim _ _ 20 [some (.inr (.inr x0)), some (.inr (.inr x1)), some (.inl x2), some (.inl x3)] [.inr (.inr 1000), .inl x2, .inl x3, .inr (.inr x1), .inr (.inr v3)] M
    refine s_cV (Z := Y_X3_asTold) (c := 3) (vs := [.inr (.inr x1), .inl x3, .inl x2, .inr (.inr 1000)]) (st := []) (rO := fun _ => none) (mO := fun z => z) zk_X3_asTold zi_X3_asTold q865 rfl ⟨by decide, by decide⟩ ⟨rfl, rfl⟩ rfl rfl (Nat.le_of_ble_eq_true rfl) (by decide +kernel) (fun z hz => c_X3_asTold hz) (fun z4 => ?_)
    change Sim l G Y_X6_liftsAll lim _ _ 23 [some (.inr (.inr x0)), some (.inr (.inr x1)), some (.inl x2), some (.inl x3)] [] z4
    refine s_run (b := [(.aload_n 0, 1)]) 24 [some (.inr (.inr x0)), some (.inr (.inr x1)), some (.inl x2), some (.inl x3)] [.inr (.inr x0)] (by decide +kernel) rfl ?_
    refine s_gR fl_6_25 rfl (by decide +kernel) (fun v5 => ?_)
    refine s_gI fl_6_65 rfl (by decide +kernel) (fun v6 => ?_)
    refine s_run (b := [(.iconst (-1), 1)]) 31 [some (.inr (.inr x0)), some (.inr (.inr x1)), some (.inl x2), some (.inl x3)] [.inl (-1 : Int32), .inl v6] (by decide +kernel) rfl ?_
    refine s_ic_ne (tgt := 36) (off := 5) (by decide +kernel) (by decide) (fun h7 => ?_) (fun h7 => ?_)
    · skip
      exact s_lsub (ls' := [none, none, none, none]) trivial (kk2_0 z4)
    · skip
      refine s_run (b := [(.iinc 3 1, 3), (.goto (-37), 3)]) 2 [some (.inr (.inr x0)), some (.inr (.inr x1)), some (.inl x2), some (.inl (x3 + (1 : Int32)))] [] (by decide +kernel) rfl ?_
      exact s_lsub (ls' := [some (.inr (.inr x0)), some (.inr (.inr x1)), some (.inl x2), some (.inl (x3 + (1 : Int32)))]) ⟨rfl, ⟨rfl, ⟨rfl, ⟨rfl, trivial⟩⟩⟩⟩ (kk1 (x3 + (1 : Int32)) z4)
set_option maxRecDepth 20000 in
theorem L_X6_liftsAll_2 {l : Launch} {G : Gv} {lim : Nat × Nat} (M : Mem) (x0 : Nat) (x1 : Nat) (x2 : Int32) (x3 : Int32) (K : ((Mem) ⊕ (Mem)) → Option (Option Value × Mem)) (kk2_0 : ∀ r : Mem, SimR l G Y_X6_liftsAll lim (K (.inl r)) 34 [none, none, none, none] [] r) (kk2_1 : ∀ r : Mem, SimR l G Y_X6_liftsAll lim (K (.inr r)) 42 [none, none, none, none] [] r) : Sim l G Y_X6_liftsAll lim (f_X6_liftsAll_L2 M x0 x1 x2 x3) K 2 [some (.inr (.inr x0)), some (.inr (.inr x1)), some (.inl x2), some (.inl x3)] [] M :=
  s_iter (f := fun s : Int32 × Mem => f_X6_liftsAll_B2 s.2 x0 x1 x2 s.1) (hd := 2) (cl := fun s => [some (.inr (.inr x0)), some (.inr (.inr x1)), some (.inl x2), some (.inl s.1)]) (cm := fun s => s.2) (xp := (fun r => match r with | .inl r => 34 | .inr r => 42)) (xl := (fun r => match r with | .inl r => [none, none, none, none] | .inr r => [none, none, none, none])) (xm := (fun r => match r with | .inl r => r | .inr r => r)) (fun s K h1 h2 => B_X6_liftsAll_2 s.2 x0 x1 x2 s.1 K (fun a3 a_ => h1 (a3, a_)) (fun a_ => h2 (.inl a_)) (fun a_ => h2 (.inr a_))) 1048576 (x3, M) K (fun r => by
    rcases r with r | r
    · exact kk2_0 r
    · exact kk2_1 r)
def f_X6_liftsAll (M : Mem) (x0 : Nat) (x1 : Nat) (x2 : Int32) : Option (Int32 × Mem) :=
  ((f_X6_liftsAll_L2 M x0 x1 x2 (0 : Int32)).bind fun r1 => match r1 with
  | .inl r1 => some ((0 : Int32), r1)
  | .inr r1 => some ((1 : Int32), r1))
set_option maxRecDepth 20000 in
theorem S_X6_liftsAll {l : Launch} {G : Gv} {lim : Nat × Nat} (M : Mem) (x0 : Nat) (x1 : Nat) (x2 : Int32) : Sim l G Y_X6_liftsAll lim (f_X6_liftsAll M x0 x1 x2) (fun z => some (some (.int z.1), z.2)) 0 [some (.inr (.inr x0)), some (.inr (.inr x1)), some (.inl x2), none] [] M := by
  unfold f_X6_liftsAll
  refine s_run (b := [(.iconst 0, 1), (.istore_n 3, 1)]) 2 [some (.inr (.inr x0)), some (.inr (.inr x1)), some (.inl x2), some (.inl (0 : Int32))] [] (by decide +kernel) rfl ?_
  refine s_lsub (ls' := [some (.inr (.inr x0)), some (.inr (.inr x1)), some (.inl x2), some (.inl (0 : Int32))]) ⟨rfl, ⟨rfl, ⟨rfl, ⟨rfl, trivial⟩⟩⟩⟩ ?_
  refine sim_bind (L_X6_liftsAll_2 M x0 x1 x2 (0 : Int32) _ (fun r1 => ?_) (fun r1 => ?_))
  · change Sim l G Y_X6_liftsAll lim _ _ 34 [none, none, none, none] [] r1
    refine s_run (b := [(.iconst 0, 1)]) 35 [none, none, none, none] [.inl (0 : Int32)] (by decide +kernel) rfl ?_
    exact s_bret (Or.inl rfl) (by decide +kernel) rfl
  · change Sim l G Y_X6_liftsAll lim _ _ 42 [none, none, none, none] [] r1
    refine s_run (b := [(.iconst 1, 1)]) 43 [none, none, none, none] [.inl (1 : Int32)] (by decide +kernel) rfl ?_
    exact s_bret (Or.inr rfl) (by decide +kernel) rfl
set_option maxRecDepth 20000 in
theorem c_X6_liftsAll {l : Launch} {G : Gv} {M : Mem} {x0 : Nat} {x1 : Nat} {x2 : Int32} {z : Int32 × Mem} (h : f_X6_liftsAll M x0 x1 x2 = some z) : MetS l G Y_X6_liftsAll [.inr (.inr x0), .inr (.inr x1), .inl x2] M (some (.int z.1)) z.2 :=
  met_of (ls0 := [some (.inr (.inr x0)), some (.inr (.inr x1)), some (.inl x2), none]) (by decide) rfl (lv_in (m := 1) rfl) (sl_le (Nat.le_of_ble_eq_true rfl)) (by rw [h]; rfl) (Or.inl ⟨rfl, rfl⟩) (S_X6_liftsAll M x0 x1 x2)
def f_X6_fewestThere_J33 (M : Mem) (x0 : Nat) (x1 : Nat) (x2 : Int32) (x3 : Int32) (y0 : Int32) : Option ((Int32 × Int32 × Mem) ⊕ ((Int32 × Mem))) :=
  (if y0 = 0 then
    some (.inl (x2, (x3 + (1 : Int32)), M))
  else
    (ob M 6 x0).bind fun _ => (f_X6_liftsAll M x0 x1 x3).bind fun z2 =>
    (if z2.1 = 0 then
      some (.inl (x2, (x3 + (1 : Int32)), z2.2))
    else
      some (.inl (x3, (x3 + (1 : Int32)), z2.2))))
set_option maxRecDepth 20000 in
theorem J_X6_fewestThere_33 {l : Launch} {G : Gv} {lim : Nat × Nat} (M : Mem) (x0 : Nat) (x1 : Nat) (x2 : Int32) (x3 : Int32) (y0 : Int32) (K : (Int32 × Int32 × Mem) ⊕ ((Int32 × Mem)) → Option (Option Value × Mem)) (kk1 : ∀ (s2 : Int32) (s3 : Int32) (s_ : Mem), SimR l G Y_X6_fewestThere lim (K (.inl (s2, s3, s_))) 4 [some (.inr (.inr x0)), some (.inr (.inr x1)), some (.inl s2), some (.inl s3), none] [] s_) (kk2_0 : ∀ (s2 : Int32) (s_ : Mem), SimR l G Y_X6_fewestThere lim (K (.inr (s2, s_))) 57 [none, none, some (.inl s2), none, none] [] s_) : Sim l G Y_X6_fewestThere lim (f_X6_fewestThere_J33 M x0 x1 x2 x3 y0) K 33 [some (.inr (.inr x0)), some (.inr (.inr x1)), some (.inl x2), some (.inl x3), none] [.inl y0] M := by
  unfold f_X6_fewestThere_J33
  refine s_run (b := [(.istore 4, 2), (.iload 4, 2)]) 37 [some (.inr (.inr x0)), some (.inr (.inr x1)), some (.inl x2), some (.inl x3), some (.inl y0)] [.inl y0] (by decide +kernel) rfl ?_
  refine s_if_eq (tgt := 51) (off := 14) (by decide +kernel) (by decide) (fun h1 => ?_) (fun h1 => ?_)
  · skip
    refine s_run (b := [(.iinc 3 1, 3), (.goto (-50), 3)]) 4 [some (.inr (.inr x0)), some (.inr (.inr x1)), some (.inl x2), some (.inl (x3 + (1 : Int32))), some (.inl y0)] [] (by decide +kernel) rfl ?_
    exact s_lsub (ls' := [some (.inr (.inr x0)), some (.inr (.inr x1)), some (.inl x2), some (.inl (x3 + (1 : Int32))), none]) ⟨rfl, ⟨rfl, ⟨rfl, ⟨rfl, trivial⟩⟩⟩⟩ (kk1 x2 (x3 + (1 : Int32)) M)
  · skip
    refine s_run (b := [(.aload_n 0, 1), (.aload_n 1, 1), (.iload_n 3, 1)]) 43 [some (.inr (.inr x0)), some (.inr (.inr x1)), some (.inl x2), some (.inl x3), some (.inl y0)] [.inl x3, .inr (.inr x1), .inr (.inr x0)] (by decide +kernel) rfl ?_
    refine s_cV (Z := Y_X6_liftsAll) (c := 6) (vs := [.inr (.inr x1), .inl x3]) (st := []) (rO := fun z => some (.inl z.1)) (mO := fun z => z.2) zk_X6_liftsAll zi_X6_liftsAll q860 rfl ⟨by decide, by decide⟩ ⟨rfl, rfl⟩ rfl rfl (Nat.le_of_ble_eq_true rfl) (by decide +kernel) (fun z hz => c_X6_liftsAll hz) (fun z2 => ?_)
    change Sim l G Y_X6_fewestThere lim _ _ 46 [some (.inr (.inr x0)), some (.inr (.inr x1)), some (.inl x2), some (.inl x3), some (.inl y0)] [.inl z2.1] z2.2
    refine s_if_eq (tgt := 51) (off := 5) (by decide +kernel) (by decide) (fun h3 => ?_) (fun h3 => ?_)
    · skip
      refine s_run (b := [(.iinc 3 1, 3), (.goto (-50), 3)]) 4 [some (.inr (.inr x0)), some (.inr (.inr x1)), some (.inl x2), some (.inl (x3 + (1 : Int32))), some (.inl y0)] [] (by decide +kernel) rfl ?_
      exact s_lsub (ls' := [some (.inr (.inr x0)), some (.inr (.inr x1)), some (.inl x2), some (.inl (x3 + (1 : Int32))), none]) ⟨rfl, ⟨rfl, ⟨rfl, ⟨rfl, trivial⟩⟩⟩⟩ (kk1 x2 (x3 + (1 : Int32)) z2.2)
    · skip
      refine s_run (b := [(.iload_n 3, 1), (.istore_n 2, 1), (.iinc 3 1, 3), (.goto (-50), 3)]) 4 [some (.inr (.inr x0)), some (.inr (.inr x1)), some (.inl x3), some (.inl (x3 + (1 : Int32))), some (.inl y0)] [] (by decide +kernel) rfl ?_
      exact s_lsub (ls' := [some (.inr (.inr x0)), some (.inr (.inr x1)), some (.inl x3), some (.inl (x3 + (1 : Int32))), none]) ⟨rfl, ⟨rfl, ⟨rfl, ⟨rfl, trivial⟩⟩⟩⟩ (kk1 x3 (x3 + (1 : Int32)) z2.2)
def f_X6_fewestThere_B4 (M : Mem) (x0 : Nat) (x1 : Nat) (x2 : Int32) (x3 : Int32) : Option ((Int32 × Int32 × Mem) ⊕ ((Int32 × Mem))) :=
  (ob M 5 x1).bind fun _ => (f_X5_everybody M x1).bind fun v1 =>
  (if v1 < x3 then
    some (.inr (x2, M))
  else
    (if x2 = (-1 : Int32) then
      f_X6_fewestThere_J33 M x0 x1 x2 x3 (1 : Int32)
    else
      (f_J6_bitCount_0f7a4 M x3).bind fun v4 =>
      (f_J6_bitCount_0f7a4 M x2).bind fun v5 =>
      (if v5 ≤ v4 then
        f_X6_fewestThere_J33 M x0 x1 x2 x3 (0 : Int32)
      else
        f_X6_fewestThere_J33 M x0 x1 x2 x3 (1 : Int32))))
def f_X6_fewestThere_L4 (M : Mem) (x0 : Nat) (x1 : Nat) (x2 : Int32) (x3 : Int32) : Option ((Int32 × Mem)) := iter (fun s : Int32 × Int32 × Mem => f_X6_fewestThere_B4 s.2.2 x0 x1 s.1 s.2.1) 1048576 (x2, x3, M)
set_option maxRecDepth 20000 in
theorem B_X6_fewestThere_4 {l : Launch} {G : Gv} {lim : Nat × Nat} (M : Mem) (x0 : Nat) (x1 : Nat) (x2 : Int32) (x3 : Int32) (K : (Int32 × Int32 × Mem) ⊕ ((Int32 × Mem)) → Option (Option Value × Mem)) (kk1 : ∀ (s2 : Int32) (s3 : Int32) (s_ : Mem), SimR l G Y_X6_fewestThere lim (K (.inl (s2, s3, s_))) 4 [some (.inr (.inr x0)), some (.inr (.inr x1)), some (.inl s2), some (.inl s3), none] [] s_) (kk2_0 : ∀ (s2 : Int32) (s_ : Mem), SimR l G Y_X6_fewestThere lim (K (.inr (s2, s_))) 57 [none, none, some (.inl s2), none, none] [] s_) : Sim l G Y_X6_fewestThere lim (f_X6_fewestThere_B4 M x0 x1 x2 x3) K 4 [some (.inr (.inr x0)), some (.inr (.inr x1)), some (.inl x2), some (.inl x3), none] [] M := by
  unfold f_X6_fewestThere_B4
  refine s_run (b := [(.iload_n 3, 1), (.aload_n 1, 1)]) 6 [some (.inr (.inr x0)), some (.inr (.inr x1)), some (.inl x2), some (.inl x3), none] [.inr (.inr x1), .inl x3] (by decide +kernel) rfl ?_
  refine s_cV (Z := Y_X5_everybody) (c := 5) (vs := []) (st := [.inl x3]) (rO := fun z => some (.inl z)) (mO := fun _ => M) zk_X5_everybody zi_X5_everybody q858 rfl ⟨by decide, by decide⟩ ⟨rfl, rfl⟩ rfl rfl (Nat.le_of_ble_eq_true rfl) (by decide +kernel) (fun z hz => c_X5_everybody hz) (fun v1 => ?_)
  change Sim l G Y_X6_fewestThere lim _ _ 9 [some (.inr (.inr x0)), some (.inr (.inr x1)), some (.inl x2), some (.inl x3), none] [.inl v1, .inl x3] M
  refine s_ic_gt (tgt := 57) (off := 48) (by decide +kernel) (by decide) (fun h2 => ?_) (fun h2 => ?_)
  · skip
    exact s_lsub (ls' := [none, none, some (.inl x2), none, none]) ⟨rfl, trivial⟩ (kk2_0 x2 M)
  · skip
    refine s_run (b := [(.iload_n 2, 1), (.iconst (-1), 1)]) 14 [some (.inr (.inr x0)), some (.inr (.inr x1)), some (.inl x2), some (.inl x3), none] [.inl (-1 : Int32), .inl x2] (by decide +kernel) rfl ?_
    refine s_ic_eq (tgt := 28) (off := 14) (by decide +kernel) (by decide) (fun h3 => ?_) (fun h3 => ?_)
    · skip
      refine s_run (b := [(.iconst 1, 1), (.goto 4, 3)]) 33 [some (.inr (.inr x0)), some (.inr (.inr x1)), some (.inl x2), some (.inl x3), none] [.inl (1 : Int32)] (by decide +kernel) rfl ?_
      exact s_lsub (ls' := [some (.inr (.inr x0)), some (.inr (.inr x1)), some (.inl x2), some (.inl x3), none]) ⟨rfl, ⟨rfl, ⟨rfl, ⟨rfl, trivial⟩⟩⟩⟩ (J_X6_fewestThere_33 M x0 x1 x2 x3 (1 : Int32) K kk1 kk2_0)
    · skip
      refine s_run (b := [(.iload_n 3, 1)]) 18 [some (.inr (.inr x0)), some (.inr (.inr x1)), some (.inl x2), some (.inl x3), none] [.inl x3] (by decide +kernel) rfl ?_
      refine s_cS (Z := Y_J6_bitCount_0f7a4) (vs := [.inl x3]) (st := []) (rO := fun z => some (.inl z)) (mO := fun _ => M) zk_J6_bitCount_0f7a4 q819 q859 ⟨by decide, by decide⟩ ⟨rfl, rfl⟩ rfl rfl (Nat.le_of_ble_eq_true rfl) (by decide +kernel) (fun z hz => c_J6_bitCount_0f7a4 hz) (fun v4 => ?_)
      change Sim l G Y_X6_fewestThere lim _ _ 21 [some (.inr (.inr x0)), some (.inr (.inr x1)), some (.inl x2), some (.inl x3), none] [.inl v4] M
      refine s_run (b := [(.iload_n 2, 1)]) 22 [some (.inr (.inr x0)), some (.inr (.inr x1)), some (.inl x2), some (.inl x3), none] [.inl x2, .inl v4] (by decide +kernel) rfl ?_
      refine s_cS (Z := Y_J6_bitCount_0f7a4) (vs := [.inl x2]) (st := [.inl v4]) (rO := fun z => some (.inl z)) (mO := fun _ => M) zk_J6_bitCount_0f7a4 q819 q859 ⟨by decide, by decide⟩ ⟨rfl, rfl⟩ rfl rfl (Nat.le_of_ble_eq_true rfl) (by decide +kernel) (fun z hz => c_J6_bitCount_0f7a4 hz) (fun v5 => ?_)
      change Sim l G Y_X6_fewestThere lim _ _ 25 [some (.inr (.inr x0)), some (.inr (.inr x1)), some (.inl x2), some (.inl x3), none] [.inl v5, .inl v4] M
      refine s_ic_ge (tgt := 32) (off := 7) (by decide +kernel) (by decide) (fun h6 => ?_) (fun h6 => ?_)
      · skip
        refine s_run (b := [(.iconst 0, 1)]) 33 [some (.inr (.inr x0)), some (.inr (.inr x1)), some (.inl x2), some (.inl x3), none] [.inl (0 : Int32)] (by decide +kernel) rfl ?_
        exact s_lsub (ls' := [some (.inr (.inr x0)), some (.inr (.inr x1)), some (.inl x2), some (.inl x3), none]) ⟨rfl, ⟨rfl, ⟨rfl, ⟨rfl, trivial⟩⟩⟩⟩ (J_X6_fewestThere_33 M x0 x1 x2 x3 (0 : Int32) K kk1 kk2_0)
      · skip
        refine s_run (b := [(.iconst 1, 1), (.goto 4, 3)]) 33 [some (.inr (.inr x0)), some (.inr (.inr x1)), some (.inl x2), some (.inl x3), none] [.inl (1 : Int32)] (by decide +kernel) rfl ?_
        exact s_lsub (ls' := [some (.inr (.inr x0)), some (.inr (.inr x1)), some (.inl x2), some (.inl x3), none]) ⟨rfl, ⟨rfl, ⟨rfl, ⟨rfl, trivial⟩⟩⟩⟩ (J_X6_fewestThere_33 M x0 x1 x2 x3 (1 : Int32) K kk1 kk2_0)
set_option maxRecDepth 20000 in
theorem L_X6_fewestThere_4 {l : Launch} {G : Gv} {lim : Nat × Nat} (M : Mem) (x0 : Nat) (x1 : Nat) (x2 : Int32) (x3 : Int32) (K : ((Int32 × Mem)) → Option (Option Value × Mem)) (kk2_0 : ∀ r : Int32 × Mem, SimR l G Y_X6_fewestThere lim (K r) 57 [none, none, some (.inl r.1), none, none] [] r.2) : Sim l G Y_X6_fewestThere lim (f_X6_fewestThere_L4 M x0 x1 x2 x3) K 4 [some (.inr (.inr x0)), some (.inr (.inr x1)), some (.inl x2), some (.inl x3), none] [] M :=
  s_iter (f := fun s : Int32 × Int32 × Mem => f_X6_fewestThere_B4 s.2.2 x0 x1 s.1 s.2.1) (hd := 4) (cl := fun s => [some (.inr (.inr x0)), some (.inr (.inr x1)), some (.inl s.1), some (.inl s.2.1), none]) (cm := fun s => s.2.2) (xp := fun _ => 57) (xl := fun r => [none, none, some (.inl r.1), none, none]) (xm := fun r => r.2) (fun s K h1 h2 => B_X6_fewestThere_4 s.2.2 x0 x1 s.1 s.2.1 K (fun a2 a3 a_ => h1 (a2, a3, a_)) (fun a2 a_ => h2 (a2, a_))) 1048576 (x2, x3, M) K kk2_0
def f_X6_fewestThere (M : Mem) (x0 : Nat) (x1 : Nat) : Option (Int32 × Mem) :=
  (f_X6_fewestThere_L4 M x0 x1 (-1 : Int32) (0 : Int32)).bind fun r1 =>
  some (r1.1, r1.2)
set_option maxRecDepth 20000 in
theorem S_X6_fewestThere {l : Launch} {G : Gv} {lim : Nat × Nat} (M : Mem) (x0 : Nat) (x1 : Nat) : Sim l G Y_X6_fewestThere lim (f_X6_fewestThere M x0 x1) (fun z => some (some (.int z.1), z.2)) 0 [some (.inr (.inr x0)), some (.inr (.inr x1)), none, none, none] [] M := by
  unfold f_X6_fewestThere
  refine s_run (b := [(.iconst (-1), 1), (.istore_n 2, 1), (.iconst 0, 1), (.istore_n 3, 1)]) 4 [some (.inr (.inr x0)), some (.inr (.inr x1)), some (.inl (-1 : Int32)), some (.inl (0 : Int32)), none] [] (by decide +kernel) rfl ?_
  refine s_lsub (ls' := [some (.inr (.inr x0)), some (.inr (.inr x1)), some (.inl (-1 : Int32)), some (.inl (0 : Int32)), none]) ⟨rfl, ⟨rfl, ⟨rfl, ⟨rfl, trivial⟩⟩⟩⟩ ?_
  refine sim_bind (L_X6_fewestThere_4 M x0 x1 (-1 : Int32) (0 : Int32) _ (fun r1 => ?_))
  change Sim l G Y_X6_fewestThere lim _ _ 57 [none, none, some (.inl r1.1), none, none] [] r1.2
  refine s_run (b := [(.iload_n 2, 1)]) 58 [none, none, some (.inl r1.1), none, none] [.inl r1.1] (by decide +kernel) rfl ?_
  exact s_iret (by decide +kernel) rfl
set_option maxRecDepth 20000 in
theorem c_X6_fewestThere {l : Launch} {G : Gv} {M : Mem} {x0 : Nat} {x1 : Nat} {z : Int32 × Mem} (h : f_X6_fewestThere M x0 x1 = some z) : MetS l G Y_X6_fewestThere [.inr (.inr x0), .inr (.inr x1)] M (some (.int z.1)) z.2 :=
  met_of (ls0 := [some (.inr (.inr x0)), some (.inr (.inr x1)), none, none, none]) (by decide) rfl (lv_in (m := 3) rfl) (sl_le (Nat.le_of_ble_eq_true rfl)) (by rw [h]; rfl) (Or.inl ⟨rfl, rfl⟩) (S_X6_fewestThere M x0 x1)
def f_X11_enough (M : Mem) (x0 : Nat) (x1 : Int32) : Option (Int32 × Mem) :=
  (gR M 11 x0 0).bind fun v1 =>
  (ob M 9 v1).bind fun _ => (f_X9_officeAt M v1 x1).bind fun v2 =>
  (if v2 = 0 then
    some ((-1 : Int32), M)
  else
    (gR M 11 x0 9).bind fun v4 =>
    (ob M 6 v4).bind fun _ => (f_X6_fewestThere M v4 v2).bind fun z5 =>
    some (z5.1, z5.2))
set_option maxRecDepth 20000 in
theorem S_X11_enough {l : Launch} {G : Gv} {lim : Nat × Nat} (M : Mem) (x0 : Nat) (x1 : Int32) : Sim l G Y_X11_enough lim (f_X11_enough M x0 x1) (fun z => some (some (.int z.1), z.2)) 0 [some (.inr (.inr x0)), some (.inl x1), none] [] M := by
  unfold f_X11_enough
  refine s_run (b := [(.aload_n 0, 1)]) 1 [some (.inr (.inr x0)), some (.inl x1), none] [.inr (.inr x0)] (by decide +kernel) rfl ?_
  refine s_gR fl_11_10 rfl (by decide +kernel) (fun v1 => ?_)
  refine s_run (b := [(.iload_n 1, 1)]) 5 [some (.inr (.inr x0)), some (.inl x1), none] [.inl x1, .inr (.inr v1)] (by decide +kernel) rfl ?_
  refine s_cV (Z := Y_X9_officeAt) (c := 9) (vs := [.inl x1]) (st := []) (rO := fun z => some (.inr (.inr z))) (mO := fun _ => M) zk_X9_officeAt zi_X9_officeAt q716 rfl ⟨by decide, by decide⟩ ⟨rfl, rfl⟩ rfl rfl (Nat.le_of_ble_eq_true rfl) (by decide +kernel) (fun z hz => c_X9_officeAt hz) (fun v2 => ?_)
  change Sim l G Y_X11_enough lim _ _ 8 [some (.inr (.inr x0)), some (.inl x1), none] [.inr (.inr v2)] M
  refine s_run (b := [(.astore_n 2, 1), (.aload_n 2, 1)]) 10 [some (.inr (.inr x0)), some (.inl x1), some (.inr (.inr v2))] [.inr (.inr v2)] (by decide +kernel) rfl ?_
  refine s_ifnonnull (tgt := 17) (off := 7) (by decide +kernel) (by decide) (fun h3 => ?_) (fun h3 => ?_)
  · skip
    refine s_run (b := [(.iconst (-1), 1), (.goto 11, 3)]) 25 [some (.inr (.inr x0)), some (.inl x1), some (.inr (.inr v2))] [.inl (-1 : Int32)] (by decide +kernel) rfl ?_
    exact s_iret (by decide +kernel) rfl
  · skip
    refine s_run (b := [(.aload_n 0, 1)]) 18 [some (.inr (.inr x0)), some (.inl x1), some (.inr (.inr v2))] [.inr (.inr x0)] (by decide +kernel) rfl ?_
    refine s_gR fl_11_69 rfl (by decide +kernel) (fun v4 => ?_)
    refine s_run (b := [(.aload_n 2, 1)]) 22 [some (.inr (.inr x0)), some (.inl x1), some (.inr (.inr v2))] [.inr (.inr v2), .inr (.inr v4)] (by decide +kernel) rfl ?_
    refine s_cV (Z := Y_X6_fewestThere) (c := 6) (vs := [.inr (.inr v2)]) (st := []) (rO := fun z => some (.inl z.1)) (mO := fun z => z.2) zk_X6_fewestThere zi_X6_fewestThere q854 rfl ⟨by decide, by decide⟩ ⟨rfl, rfl⟩ rfl rfl (Nat.le_of_ble_eq_true rfl) (by decide +kernel) (fun z hz => c_X6_fewestThere hz) (fun z5 => ?_)
    change Sim l G Y_X11_enough lim _ _ 25 [some (.inr (.inr x0)), some (.inl x1), some (.inr (.inr v2))] [.inl z5.1] z5.2
    exact s_iret (by decide +kernel) rfl
set_option maxRecDepth 20000 in
theorem c_X11_enough {l : Launch} {G : Gv} {M : Mem} {x0 : Nat} {x1 : Int32} {z : Int32 × Mem} (h : f_X11_enough M x0 x1 = some z) : MetS l G Y_X11_enough [.inr (.inr x0), .inl x1] M (some (.int z.1)) z.2 :=
  met_of (ls0 := [some (.inr (.inr x0)), some (.inl x1), none]) (by decide) rfl (lv_in (m := 1) rfl) (sl_le (Nat.le_of_ble_eq_true rfl)) (by rw [h]; rfl) (Or.inl ⟨rfl, rfl⟩) (S_X11_enough M x0 x1)
def f_X4_tell (M : Mem) (x0 : Nat) (x1 : Int32) (x2 : Int32) : Option (Int32) :=
  (if x1 < 0 then
    some (-2 : Int32)
  else
    (gI M 4 x0 0).bind fun v2 =>
    (if x1 < v2 then
      (if x2 = (0 : Int32) then
        (gR M 4 x0 2).bind fun v5 =>
        (aI M 0 v5 x1).bind fun v6 =>
        (if v6 = (-1 : Int32) then
          some (0 : Int32)
        else
          some (1 : Int32))
      else
      (if x2 = (1 : Int32) then
        (gR M 4 x0 1).bind fun v9 =>
        (aI M 0 v9 x1).bind fun v10 =>
        some v10
      else
      (if x2 = (2 : Int32) then
        (gR M 4 x0 2).bind fun v12 =>
        (aI M 0 v12 x1).bind fun v13 =>
        some v13
      else
      (if x2 = (3 : Int32) then
        (gR M 4 x0 3).bind fun v15 =>
        (aI M 0 v15 x1).bind fun v16 =>
        some v16
      else
      some (-2 : Int32)))))
    else
      some (-2 : Int32)))
set_option maxRecDepth 20000 in
theorem S_X4_tell {l : Launch} {G : Gv} {lim : Nat × Nat} (M : Mem) (x0 : Nat) (x1 : Int32) (x2 : Int32) : Sim l G Y_X4_tell lim (f_X4_tell M x0 x1 x2) (fun z => some (some (.int z), M)) 0 [some (.inr (.inr x0)), some (.inl x1), some (.inl x2)] [] M := by
  unfold f_X4_tell
  refine s_run (b := [(.iload_n 1, 1)]) 1 [some (.inr (.inr x0)), some (.inl x1), some (.inl x2)] [.inl x1] (by decide +kernel) rfl ?_
  refine s_if_lt (tgt := 12) (off := 11) (by decide +kernel) (by decide) (fun h1 => ?_) (fun h1 => ?_)
  · skip
    refine s_run (b := [(.bipush (-2), 2)]) 14 [some (.inr (.inr x0)), some (.inl x1), some (.inl x2)] [.inl (-2 : Int32)] (by decide +kernel) rfl ?_
    exact s_iret (by decide +kernel) rfl
  · skip
    refine s_run (b := [(.iload_n 1, 1), (.aload_n 0, 1)]) 6 [some (.inr (.inr x0)), some (.inl x1), some (.inl x2)] [.inr (.inr x0), .inl x1] (by decide +kernel) rfl ?_
    refine s_gI fl_4_21 rfl (by decide +kernel) (fun v2 => ?_)
    refine s_ic_lt (tgt := 15) (off := 6) (by decide +kernel) (by decide) (fun h3 => ?_) (fun h3 => ?_)
    · skip
      refine s_run (b := [(.iload_n 2, 1)]) 16 [some (.inr (.inr x0)), some (.inl x1), some (.inl x2)] [.inl x2] (by decide +kernel) rfl ?_
      refine s_ite (fun h4 => ?_) (fun h4 => ?_)
      · refine s_tabIn (off := 32) (tgt := 48) (dflt := 69) (lo := 0) (hi := 3) (offs := #[32, 48, 55, 62]) (len := 32) (0 : Int32) (by decide +kernel) h4 rfl rfl rfl (by decide) ?_
        change Sim l G Y_X4_tell lim _ _ 48 [some (.inr (.inr x0)), some (.inl x1), some (.inl x2)] [] M
        refine s_run (b := [(.aload_n 0, 1)]) 49 [some (.inr (.inr x0)), some (.inl x1), some (.inl x2)] [.inr (.inr x0)] (by decide +kernel) rfl ?_
        refine s_gR fl_4_15 rfl (by decide +kernel) (fun v5 => ?_)
        refine s_run (b := [(.iload_n 1, 1)]) 53 [some (.inr (.inr x0)), some (.inl x1), some (.inl x2)] [.inl x1, .inr (.inr v5)] (by decide +kernel) rfl ?_
        refine s_ia (by decide +kernel) (fun v6 => ?_)
        refine s_run (b := [(.iconst (-1), 1)]) 55 [some (.inr (.inr x0)), some (.inl x1), some (.inl x2)] [.inl (-1 : Int32), .inl v6] (by decide +kernel) rfl ?_
        refine s_ic_ne (tgt := 62) (off := 7) (by decide +kernel) (by decide) (fun h7 => ?_) (fun h7 => ?_)
        · skip
          refine s_run (b := [(.iconst 0, 1), (.goto 4, 3)]) 63 [some (.inr (.inr x0)), some (.inl x1), some (.inl x2)] [.inl (0 : Int32)] (by decide +kernel) rfl ?_
          exact s_iret (by decide +kernel) rfl
        · skip
          refine s_run (b := [(.iconst 1, 1)]) 63 [some (.inr (.inr x0)), some (.inl x1), some (.inl x2)] [.inl (1 : Int32)] (by decide +kernel) rfl ?_
          exact s_iret (by decide +kernel) rfl
      refine s_ite (fun h8 => ?_) (fun h8 => ?_)
      · refine s_tabIn (off := 48) (tgt := 64) (dflt := 69) (lo := 0) (hi := 3) (offs := #[32, 48, 55, 62]) (len := 32) (1 : Int32) (by decide +kernel) h8 rfl rfl rfl (by decide) ?_
        change Sim l G Y_X4_tell lim _ _ 64 [some (.inr (.inr x0)), some (.inl x1), some (.inl x2)] [] M
        refine s_run (b := [(.aload_n 0, 1)]) 65 [some (.inr (.inr x0)), some (.inl x1), some (.inl x2)] [.inr (.inr x0)] (by decide +kernel) rfl ?_
        refine s_gR fl_4_9 rfl (by decide +kernel) (fun v9 => ?_)
        refine s_run (b := [(.iload_n 1, 1)]) 69 [some (.inr (.inr x0)), some (.inl x1), some (.inl x2)] [.inl x1, .inr (.inr v9)] (by decide +kernel) rfl ?_
        refine s_ia (by decide +kernel) (fun v10 => ?_)
        exact s_iret (by decide +kernel) rfl
      refine s_ite (fun h11 => ?_) (fun h11 => ?_)
      · refine s_tabIn (off := 55) (tgt := 71) (dflt := 69) (lo := 0) (hi := 3) (offs := #[32, 48, 55, 62]) (len := 32) (2 : Int32) (by decide +kernel) h11 rfl rfl rfl (by decide) ?_
        change Sim l G Y_X4_tell lim _ _ 71 [some (.inr (.inr x0)), some (.inl x1), some (.inl x2)] [] M
        refine s_run (b := [(.aload_n 0, 1)]) 72 [some (.inr (.inr x0)), some (.inl x1), some (.inl x2)] [.inr (.inr x0)] (by decide +kernel) rfl ?_
        refine s_gR fl_4_15 rfl (by decide +kernel) (fun v12 => ?_)
        refine s_run (b := [(.iload_n 1, 1)]) 76 [some (.inr (.inr x0)), some (.inl x1), some (.inl x2)] [.inl x1, .inr (.inr v12)] (by decide +kernel) rfl ?_
        refine s_ia (by decide +kernel) (fun v13 => ?_)
        exact s_iret (by decide +kernel) rfl
      refine s_ite (fun h14 => ?_) (fun h14 => ?_)
      · refine s_tabIn (off := 62) (tgt := 78) (dflt := 69) (lo := 0) (hi := 3) (offs := #[32, 48, 55, 62]) (len := 32) (3 : Int32) (by decide +kernel) h14 rfl rfl rfl (by decide) ?_
        change Sim l G Y_X4_tell lim _ _ 78 [some (.inr (.inr x0)), some (.inl x1), some (.inl x2)] [] M
        refine s_run (b := [(.aload_n 0, 1)]) 79 [some (.inr (.inr x0)), some (.inl x1), some (.inl x2)] [.inr (.inr x0)] (by decide +kernel) rfl ?_
        refine s_gR fl_4_18 rfl (by decide +kernel) (fun v15 => ?_)
        refine s_run (b := [(.iload_n 1, 1)]) 83 [some (.inr (.inr x0)), some (.inl x1), some (.inl x2)] [.inl x1, .inr (.inr v15)] (by decide +kernel) rfl ?_
        refine s_ia (by decide +kernel) (fun v16 => ?_)
        exact s_iret (by decide +kernel) rfl
      refine s_tabOut (tgt := 85) (dflt := 69) (lo := 0) (hi := 3) (offs := #[32, 48, 55, 62]) (len := 32) (by decide +kernel) (tab_out (fun k hk => by rcases (show k = 0 ∨ k = 1 ∨ k = 2 ∨ k = 3 by omega) with rfl | rfl | rfl | rfl <;> first | exact i32_ne h4 (by decide) | exact i32_ne h8 (by decide) | exact i32_ne h11 (by decide) | exact i32_ne h14 (by decide))) (by decide) ?_
      change Sim l G Y_X4_tell lim _ _ 85 [some (.inr (.inr x0)), some (.inl x1), some (.inl x2)] [] M
      refine s_run (b := [(.bipush (-2), 2)]) 87 [some (.inr (.inr x0)), some (.inl x1), some (.inl x2)] [.inl (-2 : Int32)] (by decide +kernel) rfl ?_
      exact s_iret (by decide +kernel) rfl
    · skip
      refine s_run (b := [(.bipush (-2), 2)]) 14 [some (.inr (.inr x0)), some (.inl x1), some (.inl x2)] [.inl (-2 : Int32)] (by decide +kernel) rfl ?_
      exact s_iret (by decide +kernel) rfl
set_option maxRecDepth 20000 in
theorem c_X4_tell {l : Launch} {G : Gv} {M : Mem} {x0 : Nat} {x1 : Int32} {x2 : Int32} {z : Int32} (h : f_X4_tell M x0 x1 x2 = some z) : MetS l G Y_X4_tell [.inr (.inr x0), .inl x1, .inl x2] M (some (.int z)) M :=
  met_of (ls0 := [some (.inr (.inr x0)), some (.inl x1), some (.inl x2)]) (by decide) rfl (lv_in (m := 0) rfl) (sl_le (Nat.le_of_ble_eq_true rfl)) (by rw [h]; rfl) (Or.inl ⟨rfl, rfl⟩) (S_X4_tell M x0 x1 x2)
def f_X11_fact_J33 (M : Mem) (x2 : Int32) (x3 : Int32) (x4 : Nat)  : Option (Int32) :=
  (ob M 4 x4).bind fun _ => (f_X4_tell M x4 x2 x3).bind fun v1 =>
  some v1
set_option maxRecDepth 20000 in
theorem J_X11_fact_33 {l : Launch} {G : Gv} {lim : Nat × Nat} (M : Mem) (x2 : Int32) (x3 : Int32) (x4 : Nat)   : Sim l G Y_X11_fact lim (f_X11_fact_J33 M x2 x3 x4) (fun z => some (some (.int z), M)) 33 [none, none, some (.inl x2), some (.inl x3), some (.inr (.inr x4))] [] M := by
  unfold f_X11_fact_J33
  refine s_run (b := [(.aload 4, 2), (.iload_n 2, 1), (.iload_n 3, 1)]) 37 [none, none, some (.inl x2), some (.inl x3), some (.inr (.inr x4))] [.inl x3, .inl x2, .inr (.inr x4)] (by decide +kernel) rfl ?_
  refine s_cV (Z := Y_X4_tell) (c := 4) (vs := [.inl x2, .inl x3]) (st := []) (rO := fun z => some (.inl z)) (mO := fun _ => M) zk_X4_tell zi_X4_tell q985 rfl ⟨by decide, by decide⟩ ⟨rfl, rfl⟩ rfl rfl (Nat.le_of_ble_eq_true rfl) (by decide +kernel) (fun z hz => c_X4_tell hz) (fun v1 => ?_)
  change Sim l G Y_X11_fact lim _ _ 40 [none, none, some (.inl x2), some (.inl x3), some (.inr (.inr x4))] [.inl v1] M
  exact s_iret (by decide +kernel) rfl
def f_X11_fact (M : Mem) (x0 : Nat) (x1 : Int32) (x2 : Int32) (x3 : Int32) : Option (Int32) :=
  (gR M 11 x0 0).bind fun v1 =>
  (ob M 9 v1).bind fun _ => (f_X9_logAt M v1 x1).bind fun v2 =>
  (if v2 = 0 then
    some (-2 : Int32)
  else
    (if x2 = (-1 : Int32) then
      (if x3 = 0 then
        (gI M 4 v2 0).bind fun v6 =>
        some v6
      else
        f_X11_fact_J33 M x2 x3 v2 )
    else
      f_X11_fact_J33 M x2 x3 v2 ))
set_option maxRecDepth 20000 in
theorem S_X11_fact {l : Launch} {G : Gv} {lim : Nat × Nat} (M : Mem) (x0 : Nat) (x1 : Int32) (x2 : Int32) (x3 : Int32) : Sim l G Y_X11_fact lim (f_X11_fact M x0 x1 x2 x3) (fun z => some (some (.int z), M)) 0 [some (.inr (.inr x0)), some (.inl x1), some (.inl x2), some (.inl x3), none] [] M := by
  unfold f_X11_fact
  refine s_run (b := [(.aload_n 0, 1)]) 1 [some (.inr (.inr x0)), some (.inl x1), some (.inl x2), some (.inl x3), none] [.inr (.inr x0)] (by decide +kernel) rfl ?_
  refine s_gR fl_11_10 rfl (by decide +kernel) (fun v1 => ?_)
  refine s_run (b := [(.iload_n 1, 1)]) 5 [some (.inr (.inr x0)), some (.inl x1), some (.inl x2), some (.inl x3), none] [.inl x1, .inr (.inr v1)] (by decide +kernel) rfl ?_
  refine s_cV (Z := Y_X9_logAt) (c := 9) (vs := [.inl x1]) (st := []) (rO := fun z => some (.inr (.inr z))) (mO := fun _ => M) zk_X9_logAt zi_X9_logAt q981 rfl ⟨by decide, by decide⟩ ⟨rfl, rfl⟩ rfl rfl (Nat.le_of_ble_eq_true rfl) (by decide +kernel) (fun z hz => c_X9_logAt hz) (fun v2 => ?_)
  change Sim l G Y_X11_fact lim _ _ 8 [some (.inr (.inr x0)), some (.inl x1), some (.inl x2), some (.inl x3), none] [.inr (.inr v2)] M
  refine s_run (b := [(.astore 4, 2), (.aload 4, 2)]) 12 [some (.inr (.inr x0)), some (.inl x1), some (.inl x2), some (.inl x3), some (.inr (.inr v2))] [.inr (.inr v2)] (by decide +kernel) rfl ?_
  refine s_ifnonnull (tgt := 18) (off := 6) (by decide +kernel) (by decide) (fun h3 => ?_) (fun h3 => ?_)
  · skip
    refine s_run (b := [(.bipush (-2), 2)]) 17 [some (.inr (.inr x0)), some (.inl x1), some (.inl x2), some (.inl x3), some (.inr (.inr v2))] [.inl (-2 : Int32)] (by decide +kernel) rfl ?_
    exact s_iret (by decide +kernel) rfl
  · skip
    refine s_run (b := [(.iload_n 2, 1), (.iconst (-1), 1)]) 20 [some (.inr (.inr x0)), some (.inl x1), some (.inl x2), some (.inl x3), some (.inr (.inr v2))] [.inl (-1 : Int32), .inl x2] (by decide +kernel) rfl ?_
    refine s_ic_ne (tgt := 33) (off := 13) (by decide +kernel) (by decide) (fun h4 => ?_) (fun h4 => ?_)
    · skip
      refine s_run (b := [(.iload_n 3, 1)]) 24 [some (.inr (.inr x0)), some (.inl x1), some (.inl x2), some (.inl x3), some (.inr (.inr v2))] [.inl x3] (by decide +kernel) rfl ?_
      refine s_if_ne (tgt := 33) (off := 9) (by decide +kernel) (by decide) (fun h5 => ?_) (fun h5 => ?_)
      · skip
        refine s_run (b := [(.aload 4, 2)]) 29 [some (.inr (.inr x0)), some (.inl x1), some (.inl x2), some (.inl x3), some (.inr (.inr v2))] [.inr (.inr v2)] (by decide +kernel) rfl ?_
        refine s_gI fl_11_197 rfl (by decide +kernel) (fun v6 => ?_)
        exact s_iret (by decide +kernel) rfl
      · skip
        exact s_lsub (ls' := [none, none, some (.inl x2), some (.inl x3), some (.inr (.inr v2))]) ⟨rfl, ⟨rfl, ⟨rfl, trivial⟩⟩⟩ (J_X11_fact_33 M x2 x3 v2 )
    · skip
      exact s_lsub (ls' := [none, none, some (.inl x2), some (.inl x3), some (.inr (.inr v2))]) ⟨rfl, ⟨rfl, ⟨rfl, trivial⟩⟩⟩ (J_X11_fact_33 M x2 x3 v2 )
set_option maxRecDepth 20000 in
theorem c_X11_fact {l : Launch} {G : Gv} {M : Mem} {x0 : Nat} {x1 : Int32} {x2 : Int32} {x3 : Int32} {z : Int32} (h : f_X11_fact M x0 x1 x2 x3 = some z) : MetS l G Y_X11_fact [.inr (.inr x0), .inl x1, .inl x2, .inl x3] M (some (.int z)) M :=
  met_of (ls0 := [some (.inr (.inr x0)), some (.inl x1), some (.inl x2), some (.inl x3), none]) (by decide) rfl (lv_in (m := 1) rfl) (sl_le (Nat.le_of_ble_eq_true rfl)) (by rw [h]; rfl) (Or.inl ⟨rfl, rfl⟩) (S_X11_fact M x0 x1 x2 x3)
def f_X11_fault (M : Mem) (x0 : Nat) (x1 : Int32) : Option (Int32) :=
  (if x1 = 0 then
    (gR M 11 x0 0).bind fun v2 =>
    (gI M 9 v2 2).bind fun v3 =>
    some v3
  else
    (if x1 = (1 : Int32) then
      (gR M 11 x0 0).bind fun v5 =>
      (gI M 9 v5 3).bind fun v6 =>
      some v6
    else
      some (-1 : Int32)))
set_option maxRecDepth 20000 in
theorem S_X11_fault {l : Launch} {G : Gv} {lim : Nat × Nat} (M : Mem) (x0 : Nat) (x1 : Int32) : Sim l G Y_X11_fault lim (f_X11_fault M x0 x1) (fun z => some (some (.int z), M)) 0 [some (.inr (.inr x0)), some (.inl x1)] [] M := by
  unfold f_X11_fault
  refine s_run (b := [(.iload_n 1, 1)]) 1 [some (.inr (.inr x0)), some (.inl x1)] [.inl x1] (by decide +kernel) rfl ?_
  refine s_if_ne (tgt := 12) (off := 11) (by decide +kernel) (by decide) (fun h1 => ?_) (fun h1 => ?_)
  · skip
    refine s_run (b := [(.aload_n 0, 1)]) 5 [some (.inr (.inr x0)), some (.inl x1)] [.inr (.inr x0)] (by decide +kernel) rfl ?_
    refine s_gR fl_11_10 rfl (by decide +kernel) (fun v2 => ?_)
    refine s_gI fl_11_81 rfl (by decide +kernel) (fun v3 => ?_)
    exact s_iret (by decide +kernel) rfl
  · skip
    refine s_run (b := [(.iload_n 1, 1), (.iconst 1, 1)]) 14 [some (.inr (.inr x0)), some (.inl x1)] [.inl (1 : Int32), .inl x1] (by decide +kernel) rfl ?_
    refine s_ic_ne (tgt := 27) (off := 13) (by decide +kernel) (by decide) (fun h4 => ?_) (fun h4 => ?_)
    · skip
      refine s_run (b := [(.aload_n 0, 1)]) 18 [some (.inr (.inr x0)), some (.inl x1)] [.inr (.inr x0)] (by decide +kernel) rfl ?_
      refine s_gR fl_11_10 rfl (by decide +kernel) (fun v5 => ?_)
      refine s_gI fl_11_84 rfl (by decide +kernel) (fun v6 => ?_)
      refine s_run (b := [(.goto 4, 3)]) 28 [some (.inr (.inr x0)), some (.inl x1)] [.inl v6] (by decide +kernel) rfl ?_
      exact s_iret (by decide +kernel) rfl
    · skip
      refine s_run (b := [(.iconst (-1), 1)]) 28 [some (.inr (.inr x0)), some (.inl x1)] [.inl (-1 : Int32)] (by decide +kernel) rfl ?_
      exact s_iret (by decide +kernel) rfl
set_option maxRecDepth 20000 in
theorem c_X11_fault {l : Launch} {G : Gv} {M : Mem} {x0 : Nat} {x1 : Int32} {z : Int32} (h : f_X11_fault M x0 x1 = some z) : MetS l G Y_X11_fault [.inr (.inr x0), .inl x1] M (some (.int z)) M :=
  met_of (ls0 := [some (.inr (.inr x0)), some (.inl x1)]) (by decide) rfl (lv_in (m := 0) rfl) (sl_le (Nat.le_of_ble_eq_true rfl)) (by rw [h]; rfl) (Or.inl ⟨rfl, rfl⟩) (S_X11_fault M x0 x1)
def f_X9_putNumber_B3 (M : Mem) (x0 : Nat) (x1 : Int32) (x2 : Int32) : Option ((Int32 × Mem) ⊕ ((Mem))) :=
  (if x2 < 0 then
    some (.inr M)
  else
    (gI M 9 x0 1).bind fun v2 =>
    (if (600 : Int32) ≤ v2 then
      some (.inl ((x2 + Int32.ofInt (-8)), M))
    else
      (gR M 9 x0 0).bind fun v4 =>
      (gI M 9 x0 1).bind fun v5 =>
      (sI M 1 v4 v5 (Int8.toInt32 (Int32.toInt8 (shr x1 x2)))).bind fun M6 =>
      (gI M6 9 x0 1).bind fun v7 =>
      (pI M6 9 x0 1 (v7 + (1 : Int32))).bind fun M8 =>
      some (.inl ((x2 + Int32.ofInt (-8)), M8))))
def f_X9_putNumber_L3 (M : Mem) (x0 : Nat) (x1 : Int32) (x2 : Int32) : Option ((Mem)) := iter (fun s : Int32 × Mem => f_X9_putNumber_B3 s.2 x0 x1 s.1) 1048576 (x2, M)
set_option maxRecDepth 20000 in
theorem B_X9_putNumber_3 {l : Launch} {G : Gv} {lim : Nat × Nat} (M : Mem) (x0 : Nat) (x1 : Int32) (x2 : Int32) (K : (Int32 × Mem) ⊕ ((Mem)) → Option (Option Value × Mem)) (kk1 : ∀ (s2 : Int32) (s_ : Mem), SimR l G Y_X9_putNumber lim (K (.inl (s2, s_))) 3 [some (.inr (.inr x0)), some (.inl x1), some (.inl s2)] [] s_) (kk2_0 : ∀ (s_ : Mem), SimR l G Y_X9_putNumber lim (K (.inr s_)) 46 [none, none, none] [] s_) : Sim l G Y_X9_putNumber lim (f_X9_putNumber_B3 M x0 x1 x2) K 3 [some (.inr (.inr x0)), some (.inl x1), some (.inl x2)] [] M := by
  unfold f_X9_putNumber_B3
  refine s_run (b := [(.iload_n 2, 1)]) 4 [some (.inr (.inr x0)), some (.inl x1), some (.inl x2)] [.inl x2] (by decide +kernel) rfl ?_
  refine s_if_lt (tgt := 46) (off := 42) (by decide +kernel) (by decide) (fun h1 => ?_) (fun h1 => ?_)
  · skip
    exact s_lsub (ls' := [none, none, none]) trivial (kk2_0 M)
  · skip
    refine s_run (b := [(.aload_n 0, 1)]) 8 [some (.inr (.inr x0)), some (.inl x1), some (.inl x2)] [.inr (.inr x0)] (by decide +kernel) rfl ?_
    refine s_gI fl_9_44 rfl (by decide +kernel) (fun v2 => ?_)
    refine s_run (b := [(.sipush 600, 3)]) 14 [some (.inr (.inr x0)), some (.inl x1), some (.inl x2)] [.inl (600 : Int32), .inl v2] (by decide +kernel) rfl ?_
    refine s_ic_ge (tgt := 40) (off := 26) (by decide +kernel) (by decide) (fun h3 => ?_) (fun h3 => ?_)
    · skip
      refine s_run (b := [(.iinc 2 (-8), 3), (.goto (-40), 3)]) 3 [some (.inr (.inr x0)), some (.inl x1), some (.inl (x2 + Int32.ofInt (-8)))] [] (by decide +kernel) rfl ?_
      exact s_lsub (ls' := [some (.inr (.inr x0)), some (.inl x1), some (.inl (x2 + Int32.ofInt (-8)))]) ⟨rfl, ⟨rfl, ⟨rfl, trivial⟩⟩⟩ (kk1 (x2 + Int32.ofInt (-8)) M)
    · skip
      refine s_run (b := [(.aload_n 0, 1)]) 18 [some (.inr (.inr x0)), some (.inl x1), some (.inl x2)] [.inr (.inr x0)] (by decide +kernel) rfl ?_
      refine s_gR fl_9_9 rfl (by decide +kernel) (fun v4 => ?_)
      refine s_run (b := [(.aload_n 0, 1)]) 22 [some (.inr (.inr x0)), some (.inl x1), some (.inl x2)] [.inr (.inr x0), .inr (.inr v4)] (by decide +kernel) rfl ?_
      refine s_gI fl_9_44 rfl (by decide +kernel) (fun v5 => ?_)
      refine s_run (b := [(.iload_n 1, 1), (.iload_n 2, 1), (.iushr, 1), (.i2b, 1)]) 29 [some (.inr (.inr x0)), some (.inl x1), some (.inl x2)] [.inl (Int8.toInt32 (Int32.toInt8 (shr x1 x2))), .inl v5, .inr (.inr v4)] (by decide +kernel) rfl ?_
      refine s_bs (by decide) (by decide +kernel) (fun M6 => ?_)
      refine s_run (b := [(.aload_n 0, 1), (.dup, 1)]) 32 [some (.inr (.inr x0)), some (.inl x1), some (.inl x2)] [.inr (.inr x0), .inr (.inr x0)] (by decide +kernel) rfl ?_
      refine s_gI fl_9_44 rfl (by decide +kernel) (fun v7 => ?_)
      refine s_run (b := [(.iconst 1, 1), (.iadd, 1)]) 37 [some (.inr (.inr x0)), some (.inl x1), some (.inl x2)] [.inl (v7 + (1 : Int32)), .inr (.inr x0)] (by decide +kernel) rfl ?_
      refine s_pI fl_9_44 (Or.inl rfl) rfl (by decide +kernel) (fun M8 => ?_)
      refine s_run (b := [(.iinc 2 (-8), 3), (.goto (-40), 3)]) 3 [some (.inr (.inr x0)), some (.inl x1), some (.inl (x2 + Int32.ofInt (-8)))] [] (by decide +kernel) rfl ?_
      exact s_lsub (ls' := [some (.inr (.inr x0)), some (.inl x1), some (.inl (x2 + Int32.ofInt (-8)))]) ⟨rfl, ⟨rfl, ⟨rfl, trivial⟩⟩⟩ (kk1 (x2 + Int32.ofInt (-8)) M8)
set_option maxRecDepth 20000 in
theorem L_X9_putNumber_3 {l : Launch} {G : Gv} {lim : Nat × Nat} (M : Mem) (x0 : Nat) (x1 : Int32) (x2 : Int32) (K : ((Mem)) → Option (Option Value × Mem)) (kk2_0 : ∀ r : Mem, SimR l G Y_X9_putNumber lim (K r) 46 [none, none, none] [] r) : Sim l G Y_X9_putNumber lim (f_X9_putNumber_L3 M x0 x1 x2) K 3 [some (.inr (.inr x0)), some (.inl x1), some (.inl x2)] [] M :=
  s_iter (f := fun s : Int32 × Mem => f_X9_putNumber_B3 s.2 x0 x1 s.1) (hd := 3) (cl := fun s => [some (.inr (.inr x0)), some (.inl x1), some (.inl s.1)]) (cm := fun s => s.2) (xp := fun _ => 46) (xl := fun r => [none, none, none]) (xm := fun r => r) (fun s K h1 h2 => B_X9_putNumber_3 s.2 x0 x1 s.1 K (fun a2 a_ => h1 (a2, a_)) (fun a_ => h2 a_)) 1048576 (x2, M) K kk2_0
def f_X9_putNumber (M : Mem) (x0 : Nat) (x1 : Int32) : Option (Mem) :=
  (f_X9_putNumber_L3 M x0 x1 (24 : Int32)).bind fun r1 =>
  some r1
set_option maxRecDepth 20000 in
theorem S_X9_putNumber {l : Launch} {G : Gv} {lim : Nat × Nat} (M : Mem) (x0 : Nat) (x1 : Int32) : Sim l G Y_X9_putNumber lim (f_X9_putNumber M x0 x1) (fun z => some (none, z)) 0 [some (.inr (.inr x0)), some (.inl x1), none] [] M := by
  unfold f_X9_putNumber
  refine s_run (b := [(.bipush 24, 2), (.istore_n 2, 1)]) 3 [some (.inr (.inr x0)), some (.inl x1), some (.inl (24 : Int32))] [] (by decide +kernel) rfl ?_
  refine s_lsub (ls' := [some (.inr (.inr x0)), some (.inl x1), some (.inl (24 : Int32))]) ⟨rfl, ⟨rfl, ⟨rfl, trivial⟩⟩⟩ ?_
  refine sim_bind (L_X9_putNumber_3 M x0 x1 (24 : Int32) _ (fun r1 => ?_))
  change Sim l G Y_X9_putNumber lim _ _ 46 [none, none, none] [] r1
  exact s_vret (by decide +kernel) rfl
set_option maxRecDepth 20000 in
theorem c_X9_putNumber {l : Launch} {G : Gv} {M : Mem} {x0 : Nat} {x1 : Int32} {z : Mem} (h : f_X9_putNumber M x0 x1 = some z) : MetS l G Y_X9_putNumber [.inr (.inr x0), .inl x1] M none z :=
  met_of (ls0 := [some (.inr (.inr x0)), some (.inl x1), none]) (by decide) rfl (lv_in (m := 1) rfl) (sl_le (Nat.le_of_ble_eq_true rfl)) (by rw [h]; rfl) (Or.inl ⟨rfl, rfl⟩) (S_X9_putNumber M x0 x1)
def f_X11_feed (M : Mem) (x0 : Nat) (x1 : Int32) (x2 : Int32) (x3 : Int32) (x4 : Int32) (x5 : Int32) : Option (Int32 × Mem) :=
  (gR M 11 x0 0).bind fun v1 =>
  (gI M 9 v1 1).bind fun v2 =>
  (if (v2 + (20 : Int32)) ≤ (600 : Int32) then
    (gR M 11 x0 0).bind fun v4 =>
    (ob M 9 v4).bind fun _ => (f_X9_putNumber M v4 x1).bind fun z5 =>
    (gR z5 11 x0 0).bind fun v6 =>
    (ob z5 9 v6).bind fun _ => (f_X9_putNumber z5 v6 x2).bind fun z7 =>
    (gR z7 11 x0 0).bind fun v8 =>
    (ob z7 9 v8).bind fun _ => (f_X9_putNumber z7 v8 x3).bind fun z9 =>
    (gR z9 11 x0 0).bind fun v10 =>
    (ob z9 9 v10).bind fun _ => (f_X9_putNumber z9 v10 x4).bind fun z11 =>
    (gR z11 11 x0 0).bind fun v12 =>
    (ob z11 9 v12).bind fun _ => (f_X9_putNumber z11 v12 x5).bind fun z13 =>
    (gR z13 11 x0 0).bind fun v14 =>
    (gI z13 9 v14 1).bind fun v15 =>
    some (v15, z13)
  else
    some ((-1 : Int32), M))
set_option maxRecDepth 20000 in
theorem S_X11_feed {l : Launch} {G : Gv} {lim : Nat × Nat} (M : Mem) (x0 : Nat) (x1 : Int32) (x2 : Int32) (x3 : Int32) (x4 : Int32) (x5 : Int32) : Sim l G Y_X11_feed lim (f_X11_feed M x0 x1 x2 x3 x4 x5) (fun z => some (some (.int z.1), z.2)) 0 [some (.inr (.inr x0)), some (.inl x1), some (.inl x2), some (.inl x3), some (.inl x4), some (.inl x5)] [] M := by
  unfold f_X11_feed
  refine s_run (b := [(.aload_n 0, 1)]) 1 [some (.inr (.inr x0)), some (.inl x1), some (.inl x2), some (.inl x3), some (.inl x4), some (.inl x5)] [.inr (.inr x0)] (by decide +kernel) rfl ?_
  refine s_gR fl_11_10 rfl (by decide +kernel) (fun v1 => ?_)
  refine s_gI fl_11_73 rfl (by decide +kernel) (fun v2 => ?_)
  refine s_run (b := [(.bipush 20, 2), (.iadd, 1), (.sipush 600, 3)]) 13 [some (.inr (.inr x0)), some (.inl x1), some (.inl x2), some (.inl x3), some (.inl x4), some (.inl x5)] [.inl (600 : Int32), .inl (v2 + (20 : Int32))] (by decide +kernel) rfl ?_
  refine s_ic_le (tgt := 18) (off := 5) (by decide +kernel) (by decide) (fun h3 => ?_) (fun h3 => ?_)
  · skip
    refine s_run (b := [(.aload_n 0, 1)]) 19 [some (.inr (.inr x0)), some (.inl x1), some (.inl x2), some (.inl x3), some (.inl x4), some (.inl x5)] [.inr (.inr x0)] (by decide +kernel) rfl ?_
    refine s_gR fl_11_10 rfl (by decide +kernel) (fun v4 => ?_)
    refine s_run (b := [(.iload_n 1, 1)]) 23 [some (.inr (.inr x0)), some (.inl x1), some (.inl x2), some (.inl x3), some (.inl x4), some (.inl x5)] [.inl x1, .inr (.inr v4)] (by decide +kernel) rfl ?_
    refine s_cV (Z := Y_X9_putNumber) (c := 9) (vs := [.inl x1]) (st := []) (rO := fun _ => none) (mO := fun z => z) zk_X9_putNumber zi_X9_putNumber q495 rfl ⟨by decide, by decide⟩ ⟨rfl, rfl⟩ rfl rfl (Nat.le_of_ble_eq_true rfl) (by decide +kernel) (fun z hz => c_X9_putNumber hz) (fun z5 => ?_)
    change Sim l G Y_X11_feed lim _ _ 26 [some (.inr (.inr x0)), some (.inl x1), some (.inl x2), some (.inl x3), some (.inl x4), some (.inl x5)] [] z5
    refine s_run (b := [(.aload_n 0, 1)]) 27 [some (.inr (.inr x0)), some (.inl x1), some (.inl x2), some (.inl x3), some (.inl x4), some (.inl x5)] [.inr (.inr x0)] (by decide +kernel) rfl ?_
    refine s_gR fl_11_10 rfl (by decide +kernel) (fun v6 => ?_)
    refine s_run (b := [(.iload_n 2, 1)]) 31 [some (.inr (.inr x0)), some (.inl x1), some (.inl x2), some (.inl x3), some (.inl x4), some (.inl x5)] [.inl x2, .inr (.inr v6)] (by decide +kernel) rfl ?_
    refine s_cV (Z := Y_X9_putNumber) (c := 9) (vs := [.inl x2]) (st := []) (rO := fun _ => none) (mO := fun z => z) zk_X9_putNumber zi_X9_putNumber q495 rfl ⟨by decide, by decide⟩ ⟨rfl, rfl⟩ rfl rfl (Nat.le_of_ble_eq_true rfl) (by decide +kernel) (fun z hz => c_X9_putNumber hz) (fun z7 => ?_)
    change Sim l G Y_X11_feed lim _ _ 34 [some (.inr (.inr x0)), some (.inl x1), some (.inl x2), some (.inl x3), some (.inl x4), some (.inl x5)] [] z7
    refine s_run (b := [(.aload_n 0, 1)]) 35 [some (.inr (.inr x0)), some (.inl x1), some (.inl x2), some (.inl x3), some (.inl x4), some (.inl x5)] [.inr (.inr x0)] (by decide +kernel) rfl ?_
    refine s_gR fl_11_10 rfl (by decide +kernel) (fun v8 => ?_)
    refine s_run (b := [(.iload_n 3, 1)]) 39 [some (.inr (.inr x0)), some (.inl x1), some (.inl x2), some (.inl x3), some (.inl x4), some (.inl x5)] [.inl x3, .inr (.inr v8)] (by decide +kernel) rfl ?_
    refine s_cV (Z := Y_X9_putNumber) (c := 9) (vs := [.inl x3]) (st := []) (rO := fun _ => none) (mO := fun z => z) zk_X9_putNumber zi_X9_putNumber q495 rfl ⟨by decide, by decide⟩ ⟨rfl, rfl⟩ rfl rfl (Nat.le_of_ble_eq_true rfl) (by decide +kernel) (fun z hz => c_X9_putNumber hz) (fun z9 => ?_)
    change Sim l G Y_X11_feed lim _ _ 42 [some (.inr (.inr x0)), some (.inl x1), some (.inl x2), some (.inl x3), some (.inl x4), some (.inl x5)] [] z9
    refine s_run (b := [(.aload_n 0, 1)]) 43 [some (.inr (.inr x0)), some (.inl x1), some (.inl x2), some (.inl x3), some (.inl x4), some (.inl x5)] [.inr (.inr x0)] (by decide +kernel) rfl ?_
    refine s_gR fl_11_10 rfl (by decide +kernel) (fun v10 => ?_)
    refine s_run (b := [(.iload 4, 2)]) 48 [some (.inr (.inr x0)), some (.inl x1), some (.inl x2), some (.inl x3), some (.inl x4), some (.inl x5)] [.inl x4, .inr (.inr v10)] (by decide +kernel) rfl ?_
    refine s_cV (Z := Y_X9_putNumber) (c := 9) (vs := [.inl x4]) (st := []) (rO := fun _ => none) (mO := fun z => z) zk_X9_putNumber zi_X9_putNumber q495 rfl ⟨by decide, by decide⟩ ⟨rfl, rfl⟩ rfl rfl (Nat.le_of_ble_eq_true rfl) (by decide +kernel) (fun z hz => c_X9_putNumber hz) (fun z11 => ?_)
    change Sim l G Y_X11_feed lim _ _ 51 [some (.inr (.inr x0)), some (.inl x1), some (.inl x2), some (.inl x3), some (.inl x4), some (.inl x5)] [] z11
    refine s_run (b := [(.aload_n 0, 1)]) 52 [some (.inr (.inr x0)), some (.inl x1), some (.inl x2), some (.inl x3), some (.inl x4), some (.inl x5)] [.inr (.inr x0)] (by decide +kernel) rfl ?_
    refine s_gR fl_11_10 rfl (by decide +kernel) (fun v12 => ?_)
    refine s_run (b := [(.iload 5, 2)]) 57 [some (.inr (.inr x0)), some (.inl x1), some (.inl x2), some (.inl x3), some (.inl x4), some (.inl x5)] [.inl x5, .inr (.inr v12)] (by decide +kernel) rfl ?_
    refine s_cV (Z := Y_X9_putNumber) (c := 9) (vs := [.inl x5]) (st := []) (rO := fun _ => none) (mO := fun z => z) zk_X9_putNumber zi_X9_putNumber q495 rfl ⟨by decide, by decide⟩ ⟨rfl, rfl⟩ rfl rfl (Nat.le_of_ble_eq_true rfl) (by decide +kernel) (fun z hz => c_X9_putNumber hz) (fun z13 => ?_)
    change Sim l G Y_X11_feed lim _ _ 60 [some (.inr (.inr x0)), some (.inl x1), some (.inl x2), some (.inl x3), some (.inl x4), some (.inl x5)] [] z13
    refine s_run (b := [(.aload_n 0, 1)]) 61 [some (.inr (.inr x0)), some (.inl x1), some (.inl x2), some (.inl x3), some (.inl x4), some (.inl x5)] [.inr (.inr x0)] (by decide +kernel) rfl ?_
    refine s_gR fl_11_10 rfl (by decide +kernel) (fun v14 => ?_)
    refine s_gI fl_11_73 rfl (by decide +kernel) (fun v15 => ?_)
    exact s_iret (by decide +kernel) rfl
  · skip
    refine s_run (b := [(.iconst (-1), 1)]) 17 [some (.inr (.inr x0)), some (.inl x1), some (.inl x2), some (.inl x3), some (.inl x4), some (.inl x5)] [.inl (-1 : Int32)] (by decide +kernel) rfl ?_
    exact s_iret (by decide +kernel) rfl
set_option maxRecDepth 20000 in
theorem c_X11_feed {l : Launch} {G : Gv} {M : Mem} {x0 : Nat} {x1 : Int32} {x2 : Int32} {x3 : Int32} {x4 : Int32} {x5 : Int32} {z : Int32 × Mem} (h : f_X11_feed M x0 x1 x2 x3 x4 x5 = some z) : MetS l G Y_X11_feed [.inr (.inr x0), .inl x1, .inl x2, .inl x3, .inl x4, .inl x5] M (some (.int z.1)) z.2 :=
  met_of (ls0 := [some (.inr (.inr x0)), some (.inl x1), some (.inl x2), some (.inl x3), some (.inl x4), some (.inl x5)]) (by decide) rfl (lv_in (m := 0) rfl) (sl_le (Nat.le_of_ble_eq_true rfl)) (by rw [h]; rfl) (Or.inl ⟨rfl, rfl⟩) (S_X11_feed M x0 x1 x2 x3 x4 x5)
def f_X10_isBehind (M : Mem) (x0 : Nat) (x1 : Int32) (x2 : Int32) : Option (Int32) :=
  (gR M 10 x0 1).bind fun v1 =>
  (aI M 0 v1 x1).bind fun v2 =>
  (gR M 10 x0 1).bind fun v3 =>
  (aI M 0 v3 x2).bind fun v4 =>
  (if v4 < v2 then
    some (1 : Int32)
  else
    (gR M 10 x0 1).bind fun v6 =>
    (aI M 0 v6 x1).bind fun v7 =>
    (gR M 10 x0 1).bind fun v8 =>
    (aI M 0 v8 x2).bind fun v9 =>
    (if v7 = v9 then
      (if x1 ≤ x2 then
        some (0 : Int32)
      else
        some (1 : Int32))
    else
      some (0 : Int32)))
set_option maxRecDepth 20000 in
theorem S_X10_isBehind {l : Launch} {G : Gv} {lim : Nat × Nat} (M : Mem) (x0 : Nat) (x1 : Int32) (x2 : Int32) : Sim l G Y_X10_isBehind lim (f_X10_isBehind M x0 x1 x2) (fun z => some (some (.int z), M)) 0 [some (.inr (.inr x0)), some (.inl x1), some (.inl x2)] [] M := by
  unfold f_X10_isBehind
  refine s_run (b := [(.aload_n 0, 1)]) 1 [some (.inr (.inr x0)), some (.inl x1), some (.inl x2)] [.inr (.inr x0)] (by decide +kernel) rfl ?_
  refine s_gR fl_10_11 rfl (by decide +kernel) (fun v1 => ?_)
  refine s_run (b := [(.iload_n 1, 1)]) 5 [some (.inr (.inr x0)), some (.inl x1), some (.inl x2)] [.inl x1, .inr (.inr v1)] (by decide +kernel) rfl ?_
  refine s_ia (by decide +kernel) (fun v2 => ?_)
  refine s_run (b := [(.aload_n 0, 1)]) 7 [some (.inr (.inr x0)), some (.inl x1), some (.inl x2)] [.inr (.inr x0), .inl v2] (by decide +kernel) rfl ?_
  refine s_gR fl_10_11 rfl (by decide +kernel) (fun v3 => ?_)
  refine s_run (b := [(.iload_n 2, 1)]) 11 [some (.inr (.inr x0)), some (.inl x1), some (.inl x2)] [.inl x2, .inr (.inr v3), .inl v2] (by decide +kernel) rfl ?_
  refine s_ia (by decide +kernel) (fun v4 => ?_)
  refine s_ic_gt (tgt := 35) (off := 23) (by decide +kernel) (by decide) (fun h5 => ?_) (fun h5 => ?_)
  · skip
    refine s_run (b := [(.iconst 1, 1), (.goto 4, 3)]) 40 [some (.inr (.inr x0)), some (.inl x1), some (.inl x2)] [.inl (1 : Int32)] (by decide +kernel) rfl ?_
    exact s_bret (Or.inr rfl) (by decide +kernel) rfl
  · skip
    refine s_run (b := [(.aload_n 0, 1)]) 16 [some (.inr (.inr x0)), some (.inl x1), some (.inl x2)] [.inr (.inr x0)] (by decide +kernel) rfl ?_
    refine s_gR fl_10_11 rfl (by decide +kernel) (fun v6 => ?_)
    refine s_run (b := [(.iload_n 1, 1)]) 20 [some (.inr (.inr x0)), some (.inl x1), some (.inl x2)] [.inl x1, .inr (.inr v6)] (by decide +kernel) rfl ?_
    refine s_ia (by decide +kernel) (fun v7 => ?_)
    refine s_run (b := [(.aload_n 0, 1)]) 22 [some (.inr (.inr x0)), some (.inl x1), some (.inl x2)] [.inr (.inr x0), .inl v7] (by decide +kernel) rfl ?_
    refine s_gR fl_10_11 rfl (by decide +kernel) (fun v8 => ?_)
    refine s_run (b := [(.iload_n 2, 1)]) 26 [some (.inr (.inr x0)), some (.inl x1), some (.inl x2)] [.inl x2, .inr (.inr v8), .inl v7] (by decide +kernel) rfl ?_
    refine s_ia (by decide +kernel) (fun v9 => ?_)
    refine s_ic_ne (tgt := 39) (off := 12) (by decide +kernel) (by decide) (fun h10 => ?_) (fun h10 => ?_)
    · skip
      refine s_run (b := [(.iload_n 1, 1), (.iload_n 2, 1)]) 32 [some (.inr (.inr x0)), some (.inl x1), some (.inl x2)] [.inl x2, .inl x1] (by decide +kernel) rfl ?_
      refine s_ic_le (tgt := 39) (off := 7) (by decide +kernel) (by decide) (fun h11 => ?_) (fun h11 => ?_)
      · skip
        refine s_run (b := [(.iconst 0, 1)]) 40 [some (.inr (.inr x0)), some (.inl x1), some (.inl x2)] [.inl (0 : Int32)] (by decide +kernel) rfl ?_
        exact s_bret (Or.inl rfl) (by decide +kernel) rfl
      · skip
        refine s_run (b := [(.iconst 1, 1), (.goto 4, 3)]) 40 [some (.inr (.inr x0)), some (.inl x1), some (.inl x2)] [.inl (1 : Int32)] (by decide +kernel) rfl ?_
        exact s_bret (Or.inr rfl) (by decide +kernel) rfl
    · skip
      refine s_run (b := [(.iconst 0, 1)]) 40 [some (.inr (.inr x0)), some (.inl x1), some (.inl x2)] [.inl (0 : Int32)] (by decide +kernel) rfl ?_
      exact s_bret (Or.inl rfl) (by decide +kernel) rfl
set_option maxRecDepth 20000 in
theorem c_X10_isBehind {l : Launch} {G : Gv} {M : Mem} {x0 : Nat} {x1 : Int32} {x2 : Int32} {z : Int32} (h : f_X10_isBehind M x0 x1 x2 = some z) : MetS l G Y_X10_isBehind [.inr (.inr x0), .inl x1, .inl x2] M (some (.int z)) M :=
  met_of (ls0 := [some (.inr (.inr x0)), some (.inl x1), some (.inl x2)]) (by decide) rfl (lv_in (m := 0) rfl) (sl_le (Nat.le_of_ble_eq_true rfl)) (by rw [h]; rfl) (Or.inl ⟨rfl, rfl⟩) (S_X10_isBehind M x0 x1 x2)
def f_X10_choicesBeside_J40 (M : Mem) (x0 : Nat) (x1 : Int32) (x2 : Int32) (x3 : Int32) (x4 : Int32) (x5 : Int32) (y0 : Int32) : Option ((Int32 × Int32) ⊕ ((Int32))) :=
  (if y0 = 0 then
    some (.inl (x4, (x5 + (1 : Int32))))
  else
    (if x3 < x5 then
      some (.inl ((x4 ||| ((1 : Int32) <<< (x5 &&& 31))), (x5 + (1 : Int32))))
    else
      (ob M 10 x0).bind fun _ => (f_X10_isBehind M x0 x1 x2).bind fun v3 =>
      (if v3 = 0 then
        some (.inl (x4, (x5 + (1 : Int32))))
      else
        some (.inl ((x4 ||| ((1 : Int32) <<< (x5 &&& 31))), (x5 + (1 : Int32)))))))
set_option maxRecDepth 20000 in
theorem J_X10_choicesBeside_40 {l : Launch} {G : Gv} {lim : Nat × Nat} (M : Mem) (x0 : Nat) (x1 : Int32) (x2 : Int32) (x3 : Int32) (x4 : Int32) (x5 : Int32) (y0 : Int32) (K : (Int32 × Int32) ⊕ ((Int32)) → Option (Option Value × Mem)) (kk1 : ∀ (s4 : Int32) (s5 : Int32), SimR l G Y_X10_choicesBeside lim (K (.inl (s4, s5))) 6 [some (.inr (.inr x0)), some (.inl x1), some (.inl x2), some (.inl x3), some (.inl s4), some (.inl s5), none] [] M) (kk2_0 : ∀ (s4 : Int32), SimR l G Y_X10_choicesBeside lim (K (.inr s4)) 77 [none, none, none, none, some (.inl s4), none, none] [] M) : Sim l G Y_X10_choicesBeside lim (f_X10_choicesBeside_J40 M x0 x1 x2 x3 x4 x5 y0) K 40 [some (.inr (.inr x0)), some (.inl x1), some (.inl x2), some (.inl x3), some (.inl x4), some (.inl x5), none] [.inl y0] M := by
  unfold f_X10_choicesBeside_J40
  refine s_run (b := [(.istore 6, 2), (.iload 6, 2)]) 44 [some (.inr (.inr x0)), some (.inl x1), some (.inl x2), some (.inl x3), some (.inl x4), some (.inl x5), some (.inl y0)] [.inl y0] (by decide +kernel) rfl ?_
  refine s_if_eq (tgt := 71) (off := 27) (by decide +kernel) (by decide) (fun h1 => ?_) (fun h1 => ?_)
  · skip
    refine s_run (b := [(.iinc 5 1, 3), (.goto (-68), 3)]) 6 [some (.inr (.inr x0)), some (.inl x1), some (.inl x2), some (.inl x3), some (.inl x4), some (.inl (x5 + (1 : Int32))), some (.inl y0)] [] (by decide +kernel) rfl ?_
    exact s_lsub (ls' := [some (.inr (.inr x0)), some (.inl x1), some (.inl x2), some (.inl x3), some (.inl x4), some (.inl (x5 + (1 : Int32))), none]) ⟨rfl, ⟨rfl, ⟨rfl, ⟨rfl, ⟨rfl, ⟨rfl, trivial⟩⟩⟩⟩⟩⟩ (kk1 x4 (x5 + (1 : Int32)))
  · skip
    refine s_run (b := [(.iload 5, 2), (.iload_n 3, 1)]) 50 [some (.inr (.inr x0)), some (.inl x1), some (.inl x2), some (.inl x3), some (.inl x4), some (.inl x5), some (.inl y0)] [.inl x3, .inl x5] (by decide +kernel) rfl ?_
    refine s_ic_gt (tgt := 62) (off := 12) (by decide +kernel) (by decide) (fun h2 => ?_) (fun h2 => ?_)
    · skip
      refine s_run (b := [(.iload 4, 2), (.iconst 1, 1), (.iload 5, 2), (.ishl, 1), (.ior, 1), (.istore 4, 2), (.iinc 5 1, 3), (.goto (-68), 3)]) 6 [some (.inr (.inr x0)), some (.inl x1), some (.inl x2), some (.inl x3), some (.inl (x4 ||| ((1 : Int32) <<< (x5 &&& 31)))), some (.inl (x5 + (1 : Int32))), some (.inl y0)] [] (by decide +kernel) rfl ?_
      exact s_lsub (ls' := [some (.inr (.inr x0)), some (.inl x1), some (.inl x2), some (.inl x3), some (.inl (x4 ||| ((1 : Int32) <<< (x5 &&& 31)))), some (.inl (x5 + (1 : Int32))), none]) ⟨rfl, ⟨rfl, ⟨rfl, ⟨rfl, ⟨rfl, ⟨rfl, trivial⟩⟩⟩⟩⟩⟩ (kk1 (x4 ||| ((1 : Int32) <<< (x5 &&& 31))) (x5 + (1 : Int32)))
    · skip
      refine s_run (b := [(.aload_n 0, 1), (.iload_n 1, 1), (.iload_n 2, 1)]) 56 [some (.inr (.inr x0)), some (.inl x1), some (.inl x2), some (.inl x3), some (.inl x4), some (.inl x5), some (.inl y0)] [.inl x2, .inl x1, .inr (.inr x0)] (by decide +kernel) rfl ?_
      refine s_cV (Z := Y_X10_isBehind) (c := 10) (vs := [.inl x1, .inl x2]) (st := []) (rO := fun z => some (.inl z)) (mO := fun _ => M) zk_X10_isBehind zi_X10_isBehind q935 rfl ⟨by decide, by decide⟩ ⟨rfl, rfl⟩ rfl rfl (Nat.le_of_ble_eq_true rfl) (by decide +kernel) (fun z hz => c_X10_isBehind hz) (fun v3 => ?_)
      change Sim l G Y_X10_choicesBeside lim _ _ 59 [some (.inr (.inr x0)), some (.inl x1), some (.inl x2), some (.inl x3), some (.inl x4), some (.inl x5), some (.inl y0)] [.inl v3] M
      refine s_if_eq (tgt := 71) (off := 12) (by decide +kernel) (by decide) (fun h4 => ?_) (fun h4 => ?_)
      · skip
        refine s_run (b := [(.iinc 5 1, 3), (.goto (-68), 3)]) 6 [some (.inr (.inr x0)), some (.inl x1), some (.inl x2), some (.inl x3), some (.inl x4), some (.inl (x5 + (1 : Int32))), some (.inl y0)] [] (by decide +kernel) rfl ?_
        exact s_lsub (ls' := [some (.inr (.inr x0)), some (.inl x1), some (.inl x2), some (.inl x3), some (.inl x4), some (.inl (x5 + (1 : Int32))), none]) ⟨rfl, ⟨rfl, ⟨rfl, ⟨rfl, ⟨rfl, ⟨rfl, trivial⟩⟩⟩⟩⟩⟩ (kk1 x4 (x5 + (1 : Int32)))
      · skip
        refine s_run (b := [(.iload 4, 2), (.iconst 1, 1), (.iload 5, 2), (.ishl, 1), (.ior, 1), (.istore 4, 2), (.iinc 5 1, 3), (.goto (-68), 3)]) 6 [some (.inr (.inr x0)), some (.inl x1), some (.inl x2), some (.inl x3), some (.inl (x4 ||| ((1 : Int32) <<< (x5 &&& 31)))), some (.inl (x5 + (1 : Int32))), some (.inl y0)] [] (by decide +kernel) rfl ?_
        exact s_lsub (ls' := [some (.inr (.inr x0)), some (.inl x1), some (.inl x2), some (.inl x3), some (.inl (x4 ||| ((1 : Int32) <<< (x5 &&& 31)))), some (.inl (x5 + (1 : Int32))), none]) ⟨rfl, ⟨rfl, ⟨rfl, ⟨rfl, ⟨rfl, ⟨rfl, trivial⟩⟩⟩⟩⟩⟩ (kk1 (x4 ||| ((1 : Int32) <<< (x5 &&& 31))) (x5 + (1 : Int32)))
def f_X10_choicesBeside_B6 (M : Mem) (x0 : Nat) (x1 : Int32) (x2 : Int32) (x3 : Int32) (x4 : Int32) (x5 : Int32) : Option ((Int32 × Int32) ⊕ ((Int32))) :=
  (if (3 : Int32) < x5 then
    some (.inr x4)
  else
    (gR M 10 x0 3).bind fun v2 =>
    (aI M 0 v2 x5).bind fun v3 =>
    (gR M 10 x0 3).bind fun v4 =>
    (aI M 0 v4 x3).bind fun v5 =>
    (gR M 10 x0 2).bind fun v6 =>
    (aI M 0 v6 x2).bind fun v7 =>
    (if (v5 - v7) < v3 then
      f_X10_choicesBeside_J40 M x0 x1 x2 x3 x4 x5 (0 : Int32)
    else
      f_X10_choicesBeside_J40 M x0 x1 x2 x3 x4 x5 (1 : Int32)))
def f_X10_choicesBeside_L6 (M : Mem) (x0 : Nat) (x1 : Int32) (x2 : Int32) (x3 : Int32) (x4 : Int32) (x5 : Int32) : Option ((Int32)) := iter (fun s : Int32 × Int32 => f_X10_choicesBeside_B6 M x0 x1 x2 x3 s.1 s.2) 1048576 (x4, x5)
set_option maxRecDepth 20000 in
theorem B_X10_choicesBeside_6 {l : Launch} {G : Gv} {lim : Nat × Nat} (M : Mem) (x0 : Nat) (x1 : Int32) (x2 : Int32) (x3 : Int32) (x4 : Int32) (x5 : Int32) (K : (Int32 × Int32) ⊕ ((Int32)) → Option (Option Value × Mem)) (kk1 : ∀ (s4 : Int32) (s5 : Int32), SimR l G Y_X10_choicesBeside lim (K (.inl (s4, s5))) 6 [some (.inr (.inr x0)), some (.inl x1), some (.inl x2), some (.inl x3), some (.inl s4), some (.inl s5), none] [] M) (kk2_0 : ∀ (s4 : Int32), SimR l G Y_X10_choicesBeside lim (K (.inr s4)) 77 [none, none, none, none, some (.inl s4), none, none] [] M) : Sim l G Y_X10_choicesBeside lim (f_X10_choicesBeside_B6 M x0 x1 x2 x3 x4 x5) K 6 [some (.inr (.inr x0)), some (.inl x1), some (.inl x2), some (.inl x3), some (.inl x4), some (.inl x5), none] [] M := by
  unfold f_X10_choicesBeside_B6
  refine s_run (b := [(.iload 5, 2), (.iconst 3, 1)]) 9 [some (.inr (.inr x0)), some (.inl x1), some (.inl x2), some (.inl x3), some (.inl x4), some (.inl x5), none] [.inl (3 : Int32), .inl x5] (by decide +kernel) rfl ?_
  refine s_ic_gt (tgt := 77) (off := 68) (by decide +kernel) (by decide) (fun h1 => ?_) (fun h1 => ?_)
  · skip
    exact s_lsub (ls' := [none, none, none, none, some (.inl x4), none, none]) ⟨rfl, trivial⟩ (kk2_0 x4)
  · skip
    refine s_run (b := [(.aload_n 0, 1)]) 13 [some (.inr (.inr x0)), some (.inl x1), some (.inl x2), some (.inl x3), some (.inl x4), some (.inl x5), none] [.inr (.inr x0)] (by decide +kernel) rfl ?_
    refine s_gR fl_10_18 rfl (by decide +kernel) (fun v2 => ?_)
    refine s_run (b := [(.iload 5, 2)]) 18 [some (.inr (.inr x0)), some (.inl x1), some (.inl x2), some (.inl x3), some (.inl x4), some (.inl x5), none] [.inl x5, .inr (.inr v2)] (by decide +kernel) rfl ?_
    refine s_ia (by decide +kernel) (fun v3 => ?_)
    refine s_run (b := [(.aload_n 0, 1)]) 20 [some (.inr (.inr x0)), some (.inl x1), some (.inl x2), some (.inl x3), some (.inl x4), some (.inl x5), none] [.inr (.inr x0), .inl v3] (by decide +kernel) rfl ?_
    refine s_gR fl_10_18 rfl (by decide +kernel) (fun v4 => ?_)
    refine s_run (b := [(.iload_n 3, 1)]) 24 [some (.inr (.inr x0)), some (.inl x1), some (.inl x2), some (.inl x3), some (.inl x4), some (.inl x5), none] [.inl x3, .inr (.inr v4), .inl v3] (by decide +kernel) rfl ?_
    refine s_ia (by decide +kernel) (fun v5 => ?_)
    refine s_run (b := [(.aload_n 0, 1)]) 26 [some (.inr (.inr x0)), some (.inl x1), some (.inl x2), some (.inl x3), some (.inl x4), some (.inl x5), none] [.inr (.inr x0), .inl v5, .inl v3] (by decide +kernel) rfl ?_
    refine s_gR fl_10_15 rfl (by decide +kernel) (fun v6 => ?_)
    refine s_run (b := [(.iload_n 2, 1)]) 30 [some (.inr (.inr x0)), some (.inl x1), some (.inl x2), some (.inl x3), some (.inl x4), some (.inl x5), none] [.inl x2, .inr (.inr v6), .inl v5, .inl v3] (by decide +kernel) rfl ?_
    refine s_ia (by decide +kernel) (fun v7 => ?_)
    refine s_run (b := [(.isub, 1)]) 32 [some (.inr (.inr x0)), some (.inl x1), some (.inl x2), some (.inl x3), some (.inl x4), some (.inl x5), none] [.inl (v5 - v7), .inl v3] (by decide +kernel) rfl ?_
    refine s_ic_gt (tgt := 39) (off := 7) (by decide +kernel) (by decide) (fun h8 => ?_) (fun h8 => ?_)
    · skip
      refine s_run (b := [(.iconst 0, 1)]) 40 [some (.inr (.inr x0)), some (.inl x1), some (.inl x2), some (.inl x3), some (.inl x4), some (.inl x5), none] [.inl (0 : Int32)] (by decide +kernel) rfl ?_
      exact s_lsub (ls' := [some (.inr (.inr x0)), some (.inl x1), some (.inl x2), some (.inl x3), some (.inl x4), some (.inl x5), none]) ⟨rfl, ⟨rfl, ⟨rfl, ⟨rfl, ⟨rfl, ⟨rfl, trivial⟩⟩⟩⟩⟩⟩ (J_X10_choicesBeside_40 M x0 x1 x2 x3 x4 x5 (0 : Int32) K kk1 kk2_0)
    · skip
      refine s_run (b := [(.iconst 1, 1), (.goto 4, 3)]) 40 [some (.inr (.inr x0)), some (.inl x1), some (.inl x2), some (.inl x3), some (.inl x4), some (.inl x5), none] [.inl (1 : Int32)] (by decide +kernel) rfl ?_
      exact s_lsub (ls' := [some (.inr (.inr x0)), some (.inl x1), some (.inl x2), some (.inl x3), some (.inl x4), some (.inl x5), none]) ⟨rfl, ⟨rfl, ⟨rfl, ⟨rfl, ⟨rfl, ⟨rfl, trivial⟩⟩⟩⟩⟩⟩ (J_X10_choicesBeside_40 M x0 x1 x2 x3 x4 x5 (1 : Int32) K kk1 kk2_0)
set_option maxRecDepth 20000 in
theorem L_X10_choicesBeside_6 {l : Launch} {G : Gv} {lim : Nat × Nat} (M : Mem) (x0 : Nat) (x1 : Int32) (x2 : Int32) (x3 : Int32) (x4 : Int32) (x5 : Int32) (K : ((Int32)) → Option (Option Value × Mem)) (kk2_0 : ∀ r : Int32, SimR l G Y_X10_choicesBeside lim (K r) 77 [none, none, none, none, some (.inl r), none, none] [] M) : Sim l G Y_X10_choicesBeside lim (f_X10_choicesBeside_L6 M x0 x1 x2 x3 x4 x5) K 6 [some (.inr (.inr x0)), some (.inl x1), some (.inl x2), some (.inl x3), some (.inl x4), some (.inl x5), none] [] M :=
  s_iter (f := fun s : Int32 × Int32 => f_X10_choicesBeside_B6 M x0 x1 x2 x3 s.1 s.2) (hd := 6) (cl := fun s => [some (.inr (.inr x0)), some (.inl x1), some (.inl x2), some (.inl x3), some (.inl s.1), some (.inl s.2), none]) (cm := fun s => M) (xp := fun _ => 77) (xl := fun r => [none, none, none, none, some (.inl r), none, none]) (xm := fun r => M) (fun s K h1 h2 => B_X10_choicesBeside_6 M x0 x1 x2 x3 s.1 s.2 K (fun a4 a5 => h1 (a4, a5)) (fun a4 => h2 a4)) 1048576 (x4, x5) K kk2_0
def f_X10_choicesBeside (M : Mem) (x0 : Nat) (x1 : Int32) (x2 : Int32) (x3 : Int32) : Option (Int32) :=
  (f_X10_choicesBeside_L6 M x0 x1 x2 x3 (1 : Int32) x3).bind fun r1 =>
  some r1
set_option maxRecDepth 20000 in
theorem S_X10_choicesBeside {l : Launch} {G : Gv} {lim : Nat × Nat} (M : Mem) (x0 : Nat) (x1 : Int32) (x2 : Int32) (x3 : Int32) : Sim l G Y_X10_choicesBeside lim (f_X10_choicesBeside M x0 x1 x2 x3) (fun z => some (some (.int z), M)) 0 [some (.inr (.inr x0)), some (.inl x1), some (.inl x2), some (.inl x3), none, none, none] [] M := by
  unfold f_X10_choicesBeside
  refine s_run (b := [(.iconst 1, 1), (.istore 4, 2), (.iload_n 3, 1), (.istore 5, 2)]) 6 [some (.inr (.inr x0)), some (.inl x1), some (.inl x2), some (.inl x3), some (.inl (1 : Int32)), some (.inl x3), none] [] (by decide +kernel) rfl ?_
  refine s_lsub (ls' := [some (.inr (.inr x0)), some (.inl x1), some (.inl x2), some (.inl x3), some (.inl (1 : Int32)), some (.inl x3), none]) ⟨rfl, ⟨rfl, ⟨rfl, ⟨rfl, ⟨rfl, ⟨rfl, trivial⟩⟩⟩⟩⟩⟩ ?_
  refine sim_bind (L_X10_choicesBeside_6 M x0 x1 x2 x3 (1 : Int32) x3 _ (fun r1 => ?_))
  change Sim l G Y_X10_choicesBeside lim _ _ 77 [none, none, none, none, some (.inl r1), none, none] [] M
  refine s_run (b := [(.iload 4, 2)]) 79 [none, none, none, none, some (.inl r1), none, none] [.inl r1] (by decide +kernel) rfl ?_
  exact s_iret (by decide +kernel) rfl
set_option maxRecDepth 20000 in
theorem c_X10_choicesBeside {l : Launch} {G : Gv} {M : Mem} {x0 : Nat} {x1 : Int32} {x2 : Int32} {x3 : Int32} {z : Int32} (h : f_X10_choicesBeside M x0 x1 x2 x3 = some z) : MetS l G Y_X10_choicesBeside [.inr (.inr x0), .inl x1, .inl x2, .inl x3] M (some (.int z)) M :=
  met_of (ls0 := [some (.inr (.inr x0)), some (.inl x1), some (.inl x2), some (.inl x3), none, none, none]) (by decide) rfl (lv_in (m := 3) rfl) (sl_le (Nat.le_of_ble_eq_true rfl)) (by rw [h]; rfl) (Or.inl ⟨rfl, rfl⟩) (S_X10_choicesBeside M x0 x1 x2 x3)
def f_X10_addFamily_J41 (M : Mem) (x0 : Nat) (x1 : Int32) (x2 : Int32) (x3 : Int32) (y0 : Nat) (y1 : Int32) (y2 : Int32) : Option ((Int32 × Mem) ⊕ ((Mem))) :=
  (sI M 0 y0 y1 y2).bind fun M1 =>
  some (.inl ((x3 + (1 : Int32)), M1))
set_option maxRecDepth 20000 in
theorem J_X10_addFamily_41 {l : Launch} {G : Gv} {lim : Nat × Nat} (M : Mem) (x0 : Nat) (x1 : Int32) (x2 : Int32) (x3 : Int32) (y0 : Nat) (y1 : Int32) (y2 : Int32) (K : (Int32 × Mem) ⊕ ((Mem)) → Option (Option Value × Mem)) (kk1 : ∀ (s3 : Int32) (s_ : Mem), SimR l G Y_X10_addFamily lim (K (.inl (s3, s_))) 2 [some (.inr (.inr x0)), some (.inl x1), some (.inl x2), some (.inl s3)] [] s_) (kk2_0 : ∀ (s_ : Mem), SimR l G Y_X10_addFamily lim (K (.inr s_)) 48 [some (.inr (.inr x0)), none, none, none] [] s_) : Sim l G Y_X10_addFamily lim (f_X10_addFamily_J41 M x0 x1 x2 x3 y0 y1 y2) K 41 [some (.inr (.inr x0)), some (.inl x1), some (.inl x2), some (.inl x3)] [.inl y2, .inl y1, .inr (.inr y0)] M := by
  unfold f_X10_addFamily_J41
  refine s_is (by decide +kernel) (fun M1 => ?_)
  refine s_run (b := [(.iinc 3 1, 3), (.goto (-43), 3)]) 2 [some (.inr (.inr x0)), some (.inl x1), some (.inl x2), some (.inl (x3 + (1 : Int32)))] [] (by decide +kernel) rfl ?_
  exact s_lsub (ls' := [some (.inr (.inr x0)), some (.inl x1), some (.inl x2), some (.inl (x3 + (1 : Int32)))]) ⟨rfl, ⟨rfl, ⟨rfl, ⟨rfl, trivial⟩⟩⟩⟩ (kk1 (x3 + (1 : Int32)) M1)
def f_X10_addFamily_B2 (M : Mem) (x0 : Nat) (x1 : Int32) (x2 : Int32) (x3 : Int32) : Option ((Int32 × Mem) ⊕ ((Mem))) :=
  (gI M 10 x0 0).bind fun v1 =>
  (if v1 ≤ x3 then
    some (.inr M)
  else
    (gR M 10 x0 5).bind fun v3 =>
    (gI M 10 x0 4).bind fun v4 =>
    (if x3 = x1 then
      f_X10_addFamily_J41 M x0 x1 x2 x3 v3 ((v4 * (8 : Int32)) + x3) ((1 : Int32) <<< (x2 &&& 31))
    else
      (ob M 10 x0).bind fun _ => (f_X10_choicesBeside M x0 x3 x1 x2).bind fun v6 =>
      f_X10_addFamily_J41 M x0 x1 x2 x3 v3 ((v4 * (8 : Int32)) + x3) v6))
def f_X10_addFamily_L2 (M : Mem) (x0 : Nat) (x1 : Int32) (x2 : Int32) (x3 : Int32) : Option ((Mem)) := iter (fun s : Int32 × Mem => f_X10_addFamily_B2 s.2 x0 x1 x2 s.1) 1048576 (x3, M)
set_option maxRecDepth 20000 in
theorem B_X10_addFamily_2 {l : Launch} {G : Gv} {lim : Nat × Nat} (M : Mem) (x0 : Nat) (x1 : Int32) (x2 : Int32) (x3 : Int32) (K : (Int32 × Mem) ⊕ ((Mem)) → Option (Option Value × Mem)) (kk1 : ∀ (s3 : Int32) (s_ : Mem), SimR l G Y_X10_addFamily lim (K (.inl (s3, s_))) 2 [some (.inr (.inr x0)), some (.inl x1), some (.inl x2), some (.inl s3)] [] s_) (kk2_0 : ∀ (s_ : Mem), SimR l G Y_X10_addFamily lim (K (.inr s_)) 48 [some (.inr (.inr x0)), none, none, none] [] s_) : Sim l G Y_X10_addFamily lim (f_X10_addFamily_B2 M x0 x1 x2 x3) K 2 [some (.inr (.inr x0)), some (.inl x1), some (.inl x2), some (.inl x3)] [] M := by
  unfold f_X10_addFamily_B2
  refine s_run (b := [(.iload_n 3, 1), (.aload_n 0, 1)]) 4 [some (.inr (.inr x0)), some (.inl x1), some (.inl x2), some (.inl x3)] [.inr (.inr x0), .inl x3] (by decide +kernel) rfl ?_
  refine s_gI fl_10_24 rfl (by decide +kernel) (fun v1 => ?_)
  refine s_ic_ge (tgt := 48) (off := 41) (by decide +kernel) (by decide) (fun h2 => ?_) (fun h2 => ?_)
  · skip
    exact s_lsub (ls' := [some (.inr (.inr x0)), none, none, none]) ⟨rfl, trivial⟩ (kk2_0 M)
  · skip
    refine s_run (b := [(.aload_n 0, 1)]) 11 [some (.inr (.inr x0)), some (.inl x1), some (.inl x2), some (.inl x3)] [.inr (.inr x0)] (by decide +kernel) rfl ?_
    refine s_gR fl_10_21 rfl (by decide +kernel) (fun v3 => ?_)
    refine s_run (b := [(.aload_n 0, 1)]) 15 [some (.inr (.inr x0)), some (.inl x1), some (.inl x2), some (.inl x3)] [.inr (.inr x0), .inr (.inr v3)] (by decide +kernel) rfl ?_
    refine s_gI fl_10_53 rfl (by decide +kernel) (fun v4 => ?_)
    refine s_run (b := [(.bipush 8, 2), (.imul, 1), (.iload_n 3, 1), (.iadd, 1), (.iload_n 3, 1), (.iload_n 1, 1)]) 25 [some (.inr (.inr x0)), some (.inl x1), some (.inl x2), some (.inl x3)] [.inl x1, .inl x3, .inl ((v4 * (8 : Int32)) + x3), .inr (.inr v3)] (by decide +kernel) rfl ?_
    refine s_ic_ne (tgt := 34) (off := 9) (by decide +kernel) (by decide) (fun h5 => ?_) (fun h5 => ?_)
    · skip
      refine s_run (b := [(.iconst 1, 1), (.iload_n 2, 1), (.ishl, 1), (.goto 10, 3)]) 41 [some (.inr (.inr x0)), some (.inl x1), some (.inl x2), some (.inl x3)] [.inl ((1 : Int32) <<< (x2 &&& 31)), .inl ((v4 * (8 : Int32)) + x3), .inr (.inr v3)] (by decide +kernel) rfl ?_
      exact s_lsub (ls' := [some (.inr (.inr x0)), some (.inl x1), some (.inl x2), some (.inl x3)]) ⟨rfl, ⟨rfl, ⟨rfl, ⟨rfl, trivial⟩⟩⟩⟩ (J_X10_addFamily_41 M x0 x1 x2 x3 v3 ((v4 * (8 : Int32)) + x3) ((1 : Int32) <<< (x2 &&& 31)) K kk1 kk2_0)
    · skip
      refine s_run (b := [(.aload_n 0, 1), (.iload_n 3, 1), (.iload_n 1, 1), (.iload_n 2, 1)]) 38 [some (.inr (.inr x0)), some (.inl x1), some (.inl x2), some (.inl x3)] [.inl x2, .inl x1, .inl x3, .inr (.inr x0), .inl ((v4 * (8 : Int32)) + x3), .inr (.inr v3)] (by decide +kernel) rfl ?_
      refine s_cV (Z := Y_X10_choicesBeside) (c := 10) (vs := [.inl x3, .inl x1, .inl x2]) (st := [.inl ((v4 * (8 : Int32)) + x3), .inr (.inr v3)]) (rO := fun z => some (.inl z)) (mO := fun _ => M) zk_X10_choicesBeside zi_X10_choicesBeside q931 rfl ⟨by decide, by decide⟩ ⟨rfl, rfl⟩ rfl rfl (Nat.le_of_ble_eq_true rfl) (by decide +kernel) (fun z hz => c_X10_choicesBeside hz) (fun v6 => ?_)
      change Sim l G Y_X10_addFamily lim _ _ 41 [some (.inr (.inr x0)), some (.inl x1), some (.inl x2), some (.inl x3)] [.inl v6, .inl ((v4 * (8 : Int32)) + x3), .inr (.inr v3)] M
      exact s_lsub (ls' := [some (.inr (.inr x0)), some (.inl x1), some (.inl x2), some (.inl x3)]) ⟨rfl, ⟨rfl, ⟨rfl, ⟨rfl, trivial⟩⟩⟩⟩ (J_X10_addFamily_41 M x0 x1 x2 x3 v3 ((v4 * (8 : Int32)) + x3) v6 K kk1 kk2_0)
set_option maxRecDepth 20000 in
theorem L_X10_addFamily_2 {l : Launch} {G : Gv} {lim : Nat × Nat} (M : Mem) (x0 : Nat) (x1 : Int32) (x2 : Int32) (x3 : Int32) (K : ((Mem)) → Option (Option Value × Mem)) (kk2_0 : ∀ r : Mem, SimR l G Y_X10_addFamily lim (K r) 48 [some (.inr (.inr x0)), none, none, none] [] r) : Sim l G Y_X10_addFamily lim (f_X10_addFamily_L2 M x0 x1 x2 x3) K 2 [some (.inr (.inr x0)), some (.inl x1), some (.inl x2), some (.inl x3)] [] M :=
  s_iter (f := fun s : Int32 × Mem => f_X10_addFamily_B2 s.2 x0 x1 x2 s.1) (hd := 2) (cl := fun s => [some (.inr (.inr x0)), some (.inl x1), some (.inl x2), some (.inl s.1)]) (cm := fun s => s.2) (xp := fun _ => 48) (xl := fun r => [some (.inr (.inr x0)), none, none, none]) (xm := fun r => r) (fun s K h1 h2 => B_X10_addFamily_2 s.2 x0 x1 x2 s.1 K (fun a3 a_ => h1 (a3, a_)) (fun a_ => h2 a_)) 1048576 (x3, M) K kk2_0
def f_X10_addFamily (M : Mem) (x0 : Nat) (x1 : Int32) (x2 : Int32) : Option (Mem) :=
  (f_X10_addFamily_L2 M x0 x1 x2 (0 : Int32)).bind fun r1 =>
  (gI r1 10 x0 4).bind fun v2 =>
  (pI r1 10 x0 4 (v2 + (1 : Int32))).bind fun M3 =>
  some M3
set_option maxRecDepth 20000 in
theorem S_X10_addFamily {l : Launch} {G : Gv} {lim : Nat × Nat} (M : Mem) (x0 : Nat) (x1 : Int32) (x2 : Int32) : Sim l G Y_X10_addFamily lim (f_X10_addFamily M x0 x1 x2) (fun z => some (none, z)) 0 [some (.inr (.inr x0)), some (.inl x1), some (.inl x2), none] [] M := by
  unfold f_X10_addFamily
  refine s_run (b := [(.iconst 0, 1), (.istore_n 3, 1)]) 2 [some (.inr (.inr x0)), some (.inl x1), some (.inl x2), some (.inl (0 : Int32))] [] (by decide +kernel) rfl ?_
  refine s_lsub (ls' := [some (.inr (.inr x0)), some (.inl x1), some (.inl x2), some (.inl (0 : Int32))]) ⟨rfl, ⟨rfl, ⟨rfl, ⟨rfl, trivial⟩⟩⟩⟩ ?_
  refine sim_bind (L_X10_addFamily_2 M x0 x1 x2 (0 : Int32) _ (fun r1 => ?_))
  change Sim l G Y_X10_addFamily lim _ _ 48 [some (.inr (.inr x0)), none, none, none] [] r1
  refine s_run (b := [(.aload_n 0, 1), (.dup, 1)]) 50 [some (.inr (.inr x0)), none, none, none] [.inr (.inr x0), .inr (.inr x0)] (by decide +kernel) rfl ?_
  refine s_gI fl_10_53 rfl (by decide +kernel) (fun v2 => ?_)
  refine s_run (b := [(.iconst 1, 1), (.iadd, 1)]) 55 [some (.inr (.inr x0)), none, none, none] [.inl (v2 + (1 : Int32)), .inr (.inr x0)] (by decide +kernel) rfl ?_
  refine s_pI fl_10_53 (Or.inl rfl) rfl (by decide +kernel) (fun M3 => ?_)
  exact s_vret (by decide +kernel) rfl
set_option maxRecDepth 20000 in
theorem c_X10_addFamily {l : Launch} {G : Gv} {M : Mem} {x0 : Nat} {x1 : Int32} {x2 : Int32} {z : Mem} (h : f_X10_addFamily M x0 x1 x2 = some z) : MetS l G Y_X10_addFamily [.inr (.inr x0), .inl x1, .inl x2] M none z :=
  met_of (ls0 := [some (.inr (.inr x0)), some (.inl x1), some (.inl x2), none]) (by decide) rfl (lv_in (m := 1) rfl) (sl_le (Nat.le_of_ble_eq_true rfl)) (by rw [h]; rfl) (Or.inl ⟨rfl, rfl⟩) (S_X10_addFamily M x0 x1 x2)
def f_X10_addSilence_B2 (M : Mem) (x0 : Nat) (x1 : Int32) : Option ((Int32 × Mem) ⊕ ((Mem))) :=
  (gI M 10 x0 0).bind fun v1 =>
  (if v1 ≤ x1 then
    some (.inr M)
  else
    (gR M 10 x0 5).bind fun v3 =>
    (gI M 10 x0 4).bind fun v4 =>
    (sI M 0 v3 ((v4 * (8 : Int32)) + x1) (1 : Int32)).bind fun M5 =>
    some (.inl ((x1 + (1 : Int32)), M5)))
def f_X10_addSilence_L2 (M : Mem) (x0 : Nat) (x1 : Int32) : Option ((Mem)) := iter (fun s : Int32 × Mem => f_X10_addSilence_B2 s.2 x0 s.1) 1048576 (x1, M)
set_option maxRecDepth 20000 in
theorem B_X10_addSilence_2 {l : Launch} {G : Gv} {lim : Nat × Nat} (M : Mem) (x0 : Nat) (x1 : Int32) (K : (Int32 × Mem) ⊕ ((Mem)) → Option (Option Value × Mem)) (kk1 : ∀ (s1 : Int32) (s_ : Mem), SimR l G Y_X10_addSilence lim (K (.inl (s1, s_))) 2 [some (.inr (.inr x0)), some (.inl s1)] [] s_) (kk2_0 : ∀ (s_ : Mem), SimR l G Y_X10_addSilence lim (K (.inr s_)) 31 [some (.inr (.inr x0)), none] [] s_) : Sim l G Y_X10_addSilence lim (f_X10_addSilence_B2 M x0 x1) K 2 [some (.inr (.inr x0)), some (.inl x1)] [] M := by
  unfold f_X10_addSilence_B2
  refine s_run (b := [(.iload_n 1, 1), (.aload_n 0, 1)]) 4 [some (.inr (.inr x0)), some (.inl x1)] [.inr (.inr x0), .inl x1] (by decide +kernel) rfl ?_
  refine s_gI fl_10_24 rfl (by decide +kernel) (fun v1 => ?_)
  refine s_ic_ge (tgt := 31) (off := 24) (by decide +kernel) (by decide) (fun h2 => ?_) (fun h2 => ?_)
  · skip
    exact s_lsub (ls' := [some (.inr (.inr x0)), none]) ⟨rfl, trivial⟩ (kk2_0 M)
  · skip
    refine s_run (b := [(.aload_n 0, 1)]) 11 [some (.inr (.inr x0)), some (.inl x1)] [.inr (.inr x0)] (by decide +kernel) rfl ?_
    refine s_gR fl_10_21 rfl (by decide +kernel) (fun v3 => ?_)
    refine s_run (b := [(.aload_n 0, 1)]) 15 [some (.inr (.inr x0)), some (.inl x1)] [.inr (.inr x0), .inr (.inr v3)] (by decide +kernel) rfl ?_
    refine s_gI fl_10_53 rfl (by decide +kernel) (fun v4 => ?_)
    refine s_run (b := [(.bipush 8, 2), (.imul, 1), (.iload_n 1, 1), (.iadd, 1), (.iconst 1, 1)]) 24 [some (.inr (.inr x0)), some (.inl x1)] [.inl (1 : Int32), .inl ((v4 * (8 : Int32)) + x1), .inr (.inr v3)] (by decide +kernel) rfl ?_
    refine s_is (by decide +kernel) (fun M5 => ?_)
    refine s_run (b := [(.iinc 1 1, 3), (.goto (-26), 3)]) 2 [some (.inr (.inr x0)), some (.inl (x1 + (1 : Int32)))] [] (by decide +kernel) rfl ?_
    exact s_lsub (ls' := [some (.inr (.inr x0)), some (.inl (x1 + (1 : Int32)))]) ⟨rfl, ⟨rfl, trivial⟩⟩ (kk1 (x1 + (1 : Int32)) M5)
set_option maxRecDepth 20000 in
theorem L_X10_addSilence_2 {l : Launch} {G : Gv} {lim : Nat × Nat} (M : Mem) (x0 : Nat) (x1 : Int32) (K : ((Mem)) → Option (Option Value × Mem)) (kk2_0 : ∀ r : Mem, SimR l G Y_X10_addSilence lim (K r) 31 [some (.inr (.inr x0)), none] [] r) : Sim l G Y_X10_addSilence lim (f_X10_addSilence_L2 M x0 x1) K 2 [some (.inr (.inr x0)), some (.inl x1)] [] M :=
  s_iter (f := fun s : Int32 × Mem => f_X10_addSilence_B2 s.2 x0 s.1) (hd := 2) (cl := fun s => [some (.inr (.inr x0)), some (.inl s.1)]) (cm := fun s => s.2) (xp := fun _ => 31) (xl := fun r => [some (.inr (.inr x0)), none]) (xm := fun r => r) (fun s K h1 h2 => B_X10_addSilence_2 s.2 x0 s.1 K (fun a1 a_ => h1 (a1, a_)) (fun a_ => h2 a_)) 1048576 (x1, M) K kk2_0
def f_X10_addSilence (M : Mem) (x0 : Nat) : Option (Mem) :=
  (f_X10_addSilence_L2 M x0 (0 : Int32)).bind fun r1 =>
  (gI r1 10 x0 4).bind fun v2 =>
  (pI r1 10 x0 4 (v2 + (1 : Int32))).bind fun M3 =>
  some M3
set_option maxRecDepth 20000 in
theorem S_X10_addSilence {l : Launch} {G : Gv} {lim : Nat × Nat} (M : Mem) (x0 : Nat) : Sim l G Y_X10_addSilence lim (f_X10_addSilence M x0) (fun z => some (none, z)) 0 [some (.inr (.inr x0)), none] [] M := by
  unfold f_X10_addSilence
  refine s_run (b := [(.iconst 0, 1), (.istore_n 1, 1)]) 2 [some (.inr (.inr x0)), some (.inl (0 : Int32))] [] (by decide +kernel) rfl ?_
  refine s_lsub (ls' := [some (.inr (.inr x0)), some (.inl (0 : Int32))]) ⟨rfl, ⟨rfl, trivial⟩⟩ ?_
  refine sim_bind (L_X10_addSilence_2 M x0 (0 : Int32) _ (fun r1 => ?_))
  change Sim l G Y_X10_addSilence lim _ _ 31 [some (.inr (.inr x0)), none] [] r1
  refine s_run (b := [(.aload_n 0, 1), (.dup, 1)]) 33 [some (.inr (.inr x0)), none] [.inr (.inr x0), .inr (.inr x0)] (by decide +kernel) rfl ?_
  refine s_gI fl_10_53 rfl (by decide +kernel) (fun v2 => ?_)
  refine s_run (b := [(.iconst 1, 1), (.iadd, 1)]) 38 [some (.inr (.inr x0)), none] [.inl (v2 + (1 : Int32)), .inr (.inr x0)] (by decide +kernel) rfl ?_
  refine s_pI fl_10_53 (Or.inl rfl) rfl (by decide +kernel) (fun M3 => ?_)
  exact s_vret (by decide +kernel) rfl
set_option maxRecDepth 20000 in
theorem c_X10_addSilence {l : Launch} {G : Gv} {M : Mem} {x0 : Nat} {z : Mem} (h : f_X10_addSilence M x0 = some z) : MetS l G Y_X10_addSilence [.inr (.inr x0)] M none z :=
  met_of (ls0 := [some (.inr (.inr x0)), none]) (by decide) rfl (lv_in (m := 1) rfl) (sl_le (Nat.le_of_ble_eq_true rfl)) (by rw [h]; rfl) (Or.inl ⟨rfl, rfl⟩) (S_X10_addSilence M x0)
def f_X10_nobodyWouldLift_B2 (M : Mem) (x0 : Nat) (x1 : Int32) : Option ((Int32) ⊕ ((Unit) ⊕ (Unit))) :=
  (gI M 10 x0 0).bind fun v1 =>
  (if v1 ≤ x1 then
    some (.inr (.inr ()))
  else
    (gR M 10 x0 3).bind fun v3 =>
    (aI M 0 v3 (1 : Int32)).bind fun v4 =>
    (gR M 10 x0 2).bind fun v5 =>
    (aI M 0 v5 x1).bind fun v6 =>
    (if v4 ≤ v6 then
      some (.inl (x1 + (1 : Int32)))
    else
      some (.inr (.inl ()))))
def f_X10_nobodyWouldLift_L2 (M : Mem) (x0 : Nat) (x1 : Int32) : Option ((Unit) ⊕ (Unit)) := iter (fun s : Int32 => f_X10_nobodyWouldLift_B2 M x0 s) 1048576 x1
set_option maxRecDepth 20000 in
theorem B_X10_nobodyWouldLift_2 {l : Launch} {G : Gv} {lim : Nat × Nat} (M : Mem) (x0 : Nat) (x1 : Int32) (K : (Int32) ⊕ ((Unit) ⊕ (Unit)) → Option (Option Value × Mem)) (kk1 : ∀ (s1 : Int32), SimR l G Y_X10_nobodyWouldLift lim (K (.inl s1)) 2 [some (.inr (.inr x0)), some (.inl s1)] [] M) (kk2_0 : SimR l G Y_X10_nobodyWouldLift lim (K (.inr (.inl ()))) 25 [none, none] [] M) (kk2_1 : SimR l G Y_X10_nobodyWouldLift lim (K (.inr (.inr ()))) 33 [none, none] [] M) : Sim l G Y_X10_nobodyWouldLift lim (f_X10_nobodyWouldLift_B2 M x0 x1) K 2 [some (.inr (.inr x0)), some (.inl x1)] [] M := by
  unfold f_X10_nobodyWouldLift_B2
  refine s_run (b := [(.iload_n 1, 1), (.aload_n 0, 1)]) 4 [some (.inr (.inr x0)), some (.inl x1)] [.inr (.inr x0), .inl x1] (by decide +kernel) rfl ?_
  refine s_gI fl_10_24 rfl (by decide +kernel) (fun v1 => ?_)
  refine s_ic_ge (tgt := 33) (off := 26) (by decide +kernel) (by decide) (fun h2 => ?_) (fun h2 => ?_)
  · skip
    exact s_lsub (ls' := [none, none]) trivial (kk2_1 )
  · skip
    refine s_run (b := [(.aload_n 0, 1)]) 11 [some (.inr (.inr x0)), some (.inl x1)] [.inr (.inr x0)] (by decide +kernel) rfl ?_
    refine s_gR fl_10_18 rfl (by decide +kernel) (fun v3 => ?_)
    refine s_run (b := [(.iconst 1, 1)]) 15 [some (.inr (.inr x0)), some (.inl x1)] [.inl (1 : Int32), .inr (.inr v3)] (by decide +kernel) rfl ?_
    refine s_ia (by decide +kernel) (fun v4 => ?_)
    refine s_run (b := [(.aload_n 0, 1)]) 17 [some (.inr (.inr x0)), some (.inl x1)] [.inr (.inr x0), .inl v4] (by decide +kernel) rfl ?_
    refine s_gR fl_10_15 rfl (by decide +kernel) (fun v5 => ?_)
    refine s_run (b := [(.iload_n 1, 1)]) 21 [some (.inr (.inr x0)), some (.inl x1)] [.inl x1, .inr (.inr v5), .inl v4] (by decide +kernel) rfl ?_
    refine s_ia (by decide +kernel) (fun v6 => ?_)
    refine s_ic_le (tgt := 27) (off := 5) (by decide +kernel) (by decide) (fun h7 => ?_) (fun h7 => ?_)
    · skip
      refine s_run (b := [(.iinc 1 1, 3), (.goto (-28), 3)]) 2 [some (.inr (.inr x0)), some (.inl (x1 + (1 : Int32)))] [] (by decide +kernel) rfl ?_
      exact s_lsub (ls' := [some (.inr (.inr x0)), some (.inl (x1 + (1 : Int32)))]) ⟨rfl, ⟨rfl, trivial⟩⟩ (kk1 (x1 + (1 : Int32)))
    · skip
      exact s_lsub (ls' := [none, none]) trivial (kk2_0 )
set_option maxRecDepth 20000 in
theorem L_X10_nobodyWouldLift_2 {l : Launch} {G : Gv} {lim : Nat × Nat} (M : Mem) (x0 : Nat) (x1 : Int32) (K : ((Unit) ⊕ (Unit)) → Option (Option Value × Mem)) (kk2_0 : ∀ r : Unit, SimR l G Y_X10_nobodyWouldLift lim (K (.inl r)) 25 [none, none] [] M) (kk2_1 : ∀ r : Unit, SimR l G Y_X10_nobodyWouldLift lim (K (.inr r)) 33 [none, none] [] M) : Sim l G Y_X10_nobodyWouldLift lim (f_X10_nobodyWouldLift_L2 M x0 x1) K 2 [some (.inr (.inr x0)), some (.inl x1)] [] M :=
  s_iter (f := fun s : Int32 => f_X10_nobodyWouldLift_B2 M x0 s) (hd := 2) (cl := fun s => [some (.inr (.inr x0)), some (.inl s)]) (cm := fun s => M) (xp := (fun r => match r with | .inl r => 25 | .inr r => 33)) (xl := (fun r => match r with | .inl r => [none, none] | .inr r => [none, none])) (xm := (fun r => match r with | .inl r => M | .inr r => M)) (fun s K h1 h2 => B_X10_nobodyWouldLift_2 M x0 s K (fun a1 => h1 a1) (h2 (.inl ())) (h2 (.inr ()))) 1048576 x1 K (fun r => by
    rcases r with r | r
    · exact kk2_0 r
    · exact kk2_1 r)
def f_X10_nobodyWouldLift (M : Mem) (x0 : Nat) : Option (Int32) :=
  ((f_X10_nobodyWouldLift_L2 M x0 (0 : Int32)).bind fun r1 => match r1 with
  | .inl r1 => some (0 : Int32)
  | .inr r1 => some (1 : Int32))
set_option maxRecDepth 20000 in
theorem S_X10_nobodyWouldLift {l : Launch} {G : Gv} {lim : Nat × Nat} (M : Mem) (x0 : Nat) : Sim l G Y_X10_nobodyWouldLift lim (f_X10_nobodyWouldLift M x0) (fun z => some (some (.int z), M)) 0 [some (.inr (.inr x0)), none] [] M := by
  unfold f_X10_nobodyWouldLift
  refine s_run (b := [(.iconst 0, 1), (.istore_n 1, 1)]) 2 [some (.inr (.inr x0)), some (.inl (0 : Int32))] [] (by decide +kernel) rfl ?_
  refine s_lsub (ls' := [some (.inr (.inr x0)), some (.inl (0 : Int32))]) ⟨rfl, ⟨rfl, trivial⟩⟩ ?_
  refine sim_bind (L_X10_nobodyWouldLift_2 M x0 (0 : Int32) _ (fun r1 => ?_) (fun r1 => ?_))
  · change Sim l G Y_X10_nobodyWouldLift lim _ _ 25 [none, none] [] M
    refine s_run (b := [(.iconst 0, 1)]) 26 [none, none] [.inl (0 : Int32)] (by decide +kernel) rfl ?_
    exact s_bret (Or.inl rfl) (by decide +kernel) rfl
  · change Sim l G Y_X10_nobodyWouldLift lim _ _ 33 [none, none] [] M
    refine s_run (b := [(.iconst 1, 1)]) 34 [none, none] [.inl (1 : Int32)] (by decide +kernel) rfl ?_
    exact s_bret (Or.inr rfl) (by decide +kernel) rfl
set_option maxRecDepth 20000 in
theorem c_X10_nobodyWouldLift {l : Launch} {G : Gv} {M : Mem} {x0 : Nat} {z : Int32} (h : f_X10_nobodyWouldLift M x0 = some z) : MetS l G Y_X10_nobodyWouldLift [.inr (.inr x0)] M (some (.int z)) M :=
  met_of (ls0 := [some (.inr (.inr x0)), none]) (by decide) rfl (lv_in (m := 1) rfl) (sl_le (Nat.le_of_ble_eq_true rfl)) (by rw [h]; rfl) (Or.inl ⟨rfl, rfl⟩) (S_X10_nobodyWouldLift M x0)
def f_X10_findFamilies_B30 (M : Mem) (x0 : Nat) (x1 : Int32) (x2 : Int32) : Option ((Int32 × Mem) ⊕ ((Mem))) :=
  (gI M 10 x0 0).bind fun v1 =>
  (if v1 ≤ x2 then
    some (.inr M)
  else
    (gR M 10 x0 3).bind fun v3 =>
    (aI M 0 v3 x1).bind fun v4 =>
    (gR M 10 x0 3).bind fun v5 =>
    (aI M 0 v5 (1 : Int32)).bind fun v6 =>
    (if v4 = v6 then
      (gR M 10 x0 3).bind fun v8 =>
      (aI M 0 v8 x1).bind fun v9 =>
      (gR M 10 x0 2).bind fun v10 =>
      (aI M 0 v10 x2).bind fun v11 =>
      (if v9 < v11 then
        some (.inl ((x2 + (1 : Int32)), M))
      else
        (ob M 10 x0).bind fun _ => (f_X10_addFamily M x0 x2 x1).bind fun z13 =>
        (pZ z13 10 x0 6 (1 : Int32)).bind fun M14 =>
        some (.inl ((x2 + (1 : Int32)), M14)))
    else
      some (.inl ((x2 + (1 : Int32)), M))))
def f_X10_findFamilies_L30 (M : Mem) (x0 : Nat) (x1 : Int32) (x2 : Int32) : Option ((Mem)) := iter (fun s : Int32 × Mem => f_X10_findFamilies_B30 s.2 x0 x1 s.1) 1048576 (x2, M)
set_option maxRecDepth 20000 in
theorem B_X10_findFamilies_30 {l : Launch} {G : Gv} {lim : Nat × Nat} (M : Mem) (x0 : Nat) (x1 : Int32) (x2 : Int32) (K : (Int32 × Mem) ⊕ ((Mem)) → Option (Option Value × Mem)) (kk1 : ∀ (s2 : Int32) (s_ : Mem), SimR l G Y_X10_findFamilies lim (K (.inl (s2, s_))) 30 [some (.inr (.inr x0)), some (.inl x1), some (.inl s2)] [] s_) (kk2_0 : ∀ (s_ : Mem), SimR l G Y_X10_findFamilies lim (K (.inr s_)) 85 [some (.inr (.inr x0)), some (.inl x1), none] [] s_) : Sim l G Y_X10_findFamilies lim (f_X10_findFamilies_B30 M x0 x1 x2) K 30 [some (.inr (.inr x0)), some (.inl x1), some (.inl x2)] [] M := by
  unfold f_X10_findFamilies_B30
  refine s_run (b := [(.iload_n 2, 1), (.aload_n 0, 1)]) 32 [some (.inr (.inr x0)), some (.inl x1), some (.inl x2)] [.inr (.inr x0), .inl x2] (by decide +kernel) rfl ?_
  refine s_gI fl_10_24 rfl (by decide +kernel) (fun v1 => ?_)
  refine s_ic_ge (tgt := 85) (off := 50) (by decide +kernel) (by decide) (fun h2 => ?_) (fun h2 => ?_)
  · skip
    exact s_lsub (ls' := [some (.inr (.inr x0)), some (.inl x1), none]) ⟨rfl, ⟨rfl, trivial⟩⟩ (kk2_0 M)
  · skip
    refine s_run (b := [(.aload_n 0, 1)]) 39 [some (.inr (.inr x0)), some (.inl x1), some (.inl x2)] [.inr (.inr x0)] (by decide +kernel) rfl ?_
    refine s_gR fl_10_18 rfl (by decide +kernel) (fun v3 => ?_)
    refine s_run (b := [(.iload_n 1, 1)]) 43 [some (.inr (.inr x0)), some (.inl x1), some (.inl x2)] [.inl x1, .inr (.inr v3)] (by decide +kernel) rfl ?_
    refine s_ia (by decide +kernel) (fun v4 => ?_)
    refine s_run (b := [(.aload_n 0, 1)]) 45 [some (.inr (.inr x0)), some (.inl x1), some (.inl x2)] [.inr (.inr x0), .inl v4] (by decide +kernel) rfl ?_
    refine s_gR fl_10_18 rfl (by decide +kernel) (fun v5 => ?_)
    refine s_run (b := [(.iconst 1, 1)]) 49 [some (.inr (.inr x0)), some (.inl x1), some (.inl x2)] [.inl (1 : Int32), .inr (.inr v5), .inl v4] (by decide +kernel) rfl ?_
    refine s_ia (by decide +kernel) (fun v6 => ?_)
    refine s_ic_ne (tgt := 79) (off := 29) (by decide +kernel) (by decide) (fun h7 => ?_) (fun h7 => ?_)
    · skip
      refine s_run (b := [(.aload_n 0, 1)]) 54 [some (.inr (.inr x0)), some (.inl x1), some (.inl x2)] [.inr (.inr x0)] (by decide +kernel) rfl ?_
      refine s_gR fl_10_18 rfl (by decide +kernel) (fun v8 => ?_)
      refine s_run (b := [(.iload_n 1, 1)]) 58 [some (.inr (.inr x0)), some (.inl x1), some (.inl x2)] [.inl x1, .inr (.inr v8)] (by decide +kernel) rfl ?_
      refine s_ia (by decide +kernel) (fun v9 => ?_)
      refine s_run (b := [(.aload_n 0, 1)]) 60 [some (.inr (.inr x0)), some (.inl x1), some (.inl x2)] [.inr (.inr x0), .inl v9] (by decide +kernel) rfl ?_
      refine s_gR fl_10_15 rfl (by decide +kernel) (fun v10 => ?_)
      refine s_run (b := [(.iload_n 2, 1)]) 64 [some (.inr (.inr x0)), some (.inl x1), some (.inl x2)] [.inl x2, .inr (.inr v10), .inl v9] (by decide +kernel) rfl ?_
      refine s_ia (by decide +kernel) (fun v11 => ?_)
      refine s_ic_lt (tgt := 79) (off := 14) (by decide +kernel) (by decide) (fun h12 => ?_) (fun h12 => ?_)
      · skip
        refine s_run (b := [(.iinc 2 1, 3), (.goto (-52), 3)]) 30 [some (.inr (.inr x0)), some (.inl x1), some (.inl (x2 + (1 : Int32)))] [] (by decide +kernel) rfl ?_
        exact s_lsub (ls' := [some (.inr (.inr x0)), some (.inl x1), some (.inl (x2 + (1 : Int32)))]) ⟨rfl, ⟨rfl, ⟨rfl, trivial⟩⟩⟩ (kk1 (x2 + (1 : Int32)) M)
      · skip
        refine s_run (b := [(.aload_n 0, 1), (.iload_n 2, 1), (.iload_n 1, 1)]) 71 [some (.inr (.inr x0)), some (.inl x1), some (.inl x2)] [.inl x1, .inl x2, .inr (.inr x0)] (by decide +kernel) rfl ?_
        refine s_cV (Z := Y_X10_addFamily) (c := 10) (vs := [.inl x2, .inl x1]) (st := []) (rO := fun _ => none) (mO := fun z => z) zk_X10_addFamily zi_X10_addFamily q927 rfl ⟨by decide, by decide⟩ ⟨rfl, rfl⟩ rfl rfl (Nat.le_of_ble_eq_true rfl) (by decide +kernel) (fun z hz => c_X10_addFamily hz) (fun z13 => ?_)
        change Sim l G Y_X10_findFamilies lim _ _ 74 [some (.inr (.inr x0)), some (.inl x1), some (.inl x2)] [] z13
        refine s_run (b := [(.aload_n 0, 1), (.iconst 1, 1)]) 76 [some (.inr (.inr x0)), some (.inl x1), some (.inl x2)] [.inl (1 : Int32), .inr (.inr x0)] (by decide +kernel) rfl ?_
        refine s_pZ fl_10_56 (Or.inl rfl) rfl (by decide +kernel) (fun M14 => ?_)
        refine s_run (b := [(.iinc 2 1, 3), (.goto (-52), 3)]) 30 [some (.inr (.inr x0)), some (.inl x1), some (.inl (x2 + (1 : Int32)))] [] (by decide +kernel) rfl ?_
        exact s_lsub (ls' := [some (.inr (.inr x0)), some (.inl x1), some (.inl (x2 + (1 : Int32)))]) ⟨rfl, ⟨rfl, ⟨rfl, trivial⟩⟩⟩ (kk1 (x2 + (1 : Int32)) M14)
    · skip
      refine s_run (b := [(.iinc 2 1, 3), (.goto (-52), 3)]) 30 [some (.inr (.inr x0)), some (.inl x1), some (.inl (x2 + (1 : Int32)))] [] (by decide +kernel) rfl ?_
      exact s_lsub (ls' := [some (.inr (.inr x0)), some (.inl x1), some (.inl (x2 + (1 : Int32)))]) ⟨rfl, ⟨rfl, ⟨rfl, trivial⟩⟩⟩ (kk1 (x2 + (1 : Int32)) M)
set_option maxRecDepth 20000 in
theorem L_X10_findFamilies_30 {l : Launch} {G : Gv} {lim : Nat × Nat} (M : Mem) (x0 : Nat) (x1 : Int32) (x2 : Int32) (K : ((Mem)) → Option (Option Value × Mem)) (kk2_0 : ∀ r : Mem, SimR l G Y_X10_findFamilies lim (K r) 85 [some (.inr (.inr x0)), some (.inl x1), none] [] r) : Sim l G Y_X10_findFamilies lim (f_X10_findFamilies_L30 M x0 x1 x2) K 30 [some (.inr (.inr x0)), some (.inl x1), some (.inl x2)] [] M :=
  s_iter (f := fun s : Int32 × Mem => f_X10_findFamilies_B30 s.2 x0 x1 s.1) (hd := 30) (cl := fun s => [some (.inr (.inr x0)), some (.inl x1), some (.inl s.1)]) (cm := fun s => s.2) (xp := fun _ => 85) (xl := fun r => [some (.inr (.inr x0)), some (.inl x1), none]) (xm := fun r => r) (fun s K h1 h2 => B_X10_findFamilies_30 s.2 x0 x1 s.1 K (fun a2 a_ => h1 (a2, a_)) (fun a_ => h2 a_)) 1048576 (x2, M) K kk2_0
def f_X10_findFamilies_B23 (M : Mem) (x0 : Nat) (x1 : Int32) : Option ((Int32 × Mem) ⊕ ((Mem))) :=
  (if (3 : Int32) < x1 then
    some (.inr M)
  else
    (f_X10_findFamilies_L30 M x0 x1 (0 : Int32)).bind fun r2 =>
    some (.inl ((x1 + (1 : Int32)), r2)))
def f_X10_findFamilies_L23 (M : Mem) (x0 : Nat) (x1 : Int32) : Option ((Mem)) := iter (fun s : Int32 × Mem => f_X10_findFamilies_B23 s.2 x0 s.1) 1048576 (x1, M)
set_option maxRecDepth 20000 in
theorem B_X10_findFamilies_23 {l : Launch} {G : Gv} {lim : Nat × Nat} (M : Mem) (x0 : Nat) (x1 : Int32) (K : (Int32 × Mem) ⊕ ((Mem)) → Option (Option Value × Mem)) (kk1 : ∀ (s1 : Int32) (s_ : Mem), SimR l G Y_X10_findFamilies lim (K (.inl (s1, s_))) 23 [some (.inr (.inr x0)), some (.inl s1), none] [] s_) (kk2_0 : ∀ (s_ : Mem), SimR l G Y_X10_findFamilies lim (K (.inr s_)) 91 [none, none, none] [] s_) : Sim l G Y_X10_findFamilies lim (f_X10_findFamilies_B23 M x0 x1) K 23 [some (.inr (.inr x0)), some (.inl x1), none] [] M := by
  unfold f_X10_findFamilies_B23
  refine s_run (b := [(.iload_n 1, 1), (.iconst 3, 1)]) 25 [some (.inr (.inr x0)), some (.inl x1), none] [.inl (3 : Int32), .inl x1] (by decide +kernel) rfl ?_
  refine s_ic_gt (tgt := 91) (off := 66) (by decide +kernel) (by decide) (fun h1 => ?_) (fun h1 => ?_)
  · skip
    exact s_lsub (ls' := [none, none, none]) trivial (kk2_0 M)
  · skip
    refine s_run (b := [(.iconst 0, 1), (.istore_n 2, 1)]) 30 [some (.inr (.inr x0)), some (.inl x1), some (.inl (0 : Int32))] [] (by decide +kernel) rfl ?_
    refine s_lsub (ls' := [some (.inr (.inr x0)), some (.inl x1), some (.inl (0 : Int32))]) ⟨rfl, ⟨rfl, ⟨rfl, trivial⟩⟩⟩ ?_
    refine sim_bind (L_X10_findFamilies_30 M x0 x1 (0 : Int32) _ (fun r2 => ?_))
    change Sim l G Y_X10_findFamilies lim _ _ 85 [some (.inr (.inr x0)), some (.inl x1), none] [] r2
    refine s_run (b := [(.iinc 1 1, 3), (.goto (-65), 3)]) 23 [some (.inr (.inr x0)), some (.inl (x1 + (1 : Int32))), none] [] (by decide +kernel) rfl ?_
    exact s_lsub (ls' := [some (.inr (.inr x0)), some (.inl (x1 + (1 : Int32))), none]) ⟨rfl, ⟨rfl, trivial⟩⟩ (kk1 (x1 + (1 : Int32)) r2)
set_option maxRecDepth 20000 in
theorem L_X10_findFamilies_23 {l : Launch} {G : Gv} {lim : Nat × Nat} (M : Mem) (x0 : Nat) (x1 : Int32) (K : ((Mem)) → Option (Option Value × Mem)) (kk2_0 : ∀ r : Mem, SimR l G Y_X10_findFamilies lim (K r) 91 [none, none, none] [] r) : Sim l G Y_X10_findFamilies lim (f_X10_findFamilies_L23 M x0 x1) K 23 [some (.inr (.inr x0)), some (.inl x1), none] [] M :=
  s_iter (f := fun s : Int32 × Mem => f_X10_findFamilies_B23 s.2 x0 s.1) (hd := 23) (cl := fun s => [some (.inr (.inr x0)), some (.inl s.1), none]) (cm := fun s => s.2) (xp := fun _ => 91) (xl := fun r => [none, none, none]) (xm := fun r => r) (fun s K h1 h2 => B_X10_findFamilies_23 s.2 x0 s.1 K (fun a1 a_ => h1 (a1, a_)) (fun a_ => h2 a_)) 1048576 (x1, M) K kk2_0
def f_X10_findFamilies (M : Mem) (x0 : Nat) : Option (Mem) :=
  (pI M 10 x0 4 (0 : Int32)).bind fun M1 =>
  (pZ M1 10 x0 6 (0 : Int32)).bind fun M2 =>
  (ob M2 10 x0).bind fun _ => (f_X10_nobodyWouldLift M2 x0).bind fun v3 =>
  (if v3 = 0 then
    (f_X10_findFamilies_L23 M2 x0 (1 : Int32)).bind fun r5 =>
    some r5
  else
    (ob M2 10 x0).bind fun _ => (f_X10_addSilence M2 x0).bind fun z6 =>
    (f_X10_findFamilies_L23 z6 x0 (1 : Int32)).bind fun r7 =>
    some r7)
set_option maxRecDepth 20000 in
theorem S_X10_findFamilies {l : Launch} {G : Gv} {lim : Nat × Nat} (M : Mem) (x0 : Nat) : Sim l G Y_X10_findFamilies lim (f_X10_findFamilies M x0) (fun z => some (none, z)) 0 [some (.inr (.inr x0)), none, none] [] M := by
  unfold f_X10_findFamilies
  refine s_run (b := [(.aload_n 0, 1), (.iconst 0, 1)]) 2 [some (.inr (.inr x0)), none, none] [.inl (0 : Int32), .inr (.inr x0)] (by decide +kernel) rfl ?_
  refine s_pI fl_10_53 (Or.inl rfl) rfl (by decide +kernel) (fun M1 => ?_)
  refine s_run (b := [(.aload_n 0, 1), (.iconst 0, 1)]) 7 [some (.inr (.inr x0)), none, none] [.inl (0 : Int32), .inr (.inr x0)] (by decide +kernel) rfl ?_
  refine s_pZ fl_10_56 (Or.inl rfl) rfl (by decide +kernel) (fun M2 => ?_)
  refine s_run (b := [(.aload_n 0, 1)]) 11 [some (.inr (.inr x0)), none, none] [.inr (.inr x0)] (by decide +kernel) rfl ?_
  refine s_cV (Z := Y_X10_nobodyWouldLift) (c := 10) (vs := []) (st := []) (rO := fun z => some (.inl z)) (mO := fun _ => M2) zk_X10_nobodyWouldLift zi_X10_nobodyWouldLift q919 rfl ⟨by decide, by decide⟩ ⟨rfl, rfl⟩ rfl rfl (Nat.le_of_ble_eq_true rfl) (by decide +kernel) (fun z hz => c_X10_nobodyWouldLift hz) (fun v3 => ?_)
  change Sim l G Y_X10_findFamilies lim _ _ 14 [some (.inr (.inr x0)), none, none] [.inl v3] M2
  refine s_if_eq (tgt := 21) (off := 7) (by decide +kernel) (by decide) (fun h4 => ?_) (fun h4 => ?_)
  · skip
    refine s_run (b := [(.iconst 1, 1), (.istore_n 1, 1)]) 23 [some (.inr (.inr x0)), some (.inl (1 : Int32)), none] [] (by decide +kernel) rfl ?_
    refine s_lsub (ls' := [some (.inr (.inr x0)), some (.inl (1 : Int32)), none]) ⟨rfl, ⟨rfl, trivial⟩⟩ ?_
    refine sim_bind (L_X10_findFamilies_23 M2 x0 (1 : Int32) _ (fun r5 => ?_))
    change Sim l G Y_X10_findFamilies lim _ _ 91 [none, none, none] [] r5
    exact s_vret (by decide +kernel) rfl
  · skip
    refine s_run (b := [(.aload_n 0, 1)]) 18 [some (.inr (.inr x0)), none, none] [.inr (.inr x0)] (by decide +kernel) rfl ?_
    refine s_cV (Z := Y_X10_addSilence) (c := 10) (vs := []) (st := []) (rO := fun _ => none) (mO := fun z => z) zk_X10_addSilence zi_X10_addSilence q923 rfl ⟨by decide, by decide⟩ ⟨rfl, rfl⟩ rfl rfl (Nat.le_of_ble_eq_true rfl) (by decide +kernel) (fun z hz => c_X10_addSilence hz) (fun z6 => ?_)
    change Sim l G Y_X10_findFamilies lim _ _ 21 [some (.inr (.inr x0)), none, none] [] z6
    refine s_run (b := [(.iconst 1, 1), (.istore_n 1, 1)]) 23 [some (.inr (.inr x0)), some (.inl (1 : Int32)), none] [] (by decide +kernel) rfl ?_
    refine s_lsub (ls' := [some (.inr (.inr x0)), some (.inl (1 : Int32)), none]) ⟨rfl, ⟨rfl, trivial⟩⟩ ?_
    refine sim_bind (L_X10_findFamilies_23 z6 x0 (1 : Int32) _ (fun r7 => ?_))
    change Sim l G Y_X10_findFamilies lim _ _ 91 [none, none, none] [] r7
    exact s_vret (by decide +kernel) rfl
set_option maxRecDepth 20000 in
theorem c_X10_findFamilies {l : Launch} {G : Gv} {M : Mem} {x0 : Nat} {z : Mem} (h : f_X10_findFamilies M x0 = some z) : MetS l G Y_X10_findFamilies [.inr (.inr x0)] M none z :=
  met_of (ls0 := [some (.inr (.inr x0)), none, none]) (by decide) rfl (lv_in (m := 2) rfl) (sl_le (Nat.le_of_ble_eq_true rfl)) (by rw [h]; rfl) (Or.inl ⟨rfl, rfl⟩) (S_X10_findFamilies M x0)
