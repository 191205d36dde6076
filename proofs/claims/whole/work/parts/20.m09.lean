def f_X12_rings_J155 (M : Mem) (x0 : Nat) (x1 : Int32) (x2 : Int32) (x3 : Int32) (x4 : Int32)  : Option ((Int32 × Mem) ⊕ ((Mem))) :=
  (pI M 12 x0 16 x3).bind fun M1 =>
  (pI M1 12 x0 17 x4).bind fun M2 =>
  some (.inl ((x3 + (1 : Int32)), M2))
set_option maxRecDepth 20000 in
theorem J_X12_rings_155 {l : Launch} {G : Gv} {lim : Nat × Nat} (M : Mem) (x0 : Nat) (x1 : Int32) (x2 : Int32) (x3 : Int32) (x4 : Int32)  (K : (Int32 × Mem) ⊕ ((Mem)) → Option (Option Value × Mem)) (kk1 : ∀ (s3 : Int32) (s_ : Mem), SimR l G Y_X12_rings lim (K (.inl (s3, s_))) 36 [some (.inr (.inr x0)), some (.inl x1), some (.inl x2), some (.inl s3), none, none] [] s_) (kk2_0 : ∀ (s_ : Mem), SimR l G Y_X12_rings lim (K (.inr s_)) 172 [none, none, none, none, none, none] [] s_) : Sim l G Y_X12_rings lim (f_X12_rings_J155 M x0 x1 x2 x3 x4) K 155 [some (.inr (.inr x0)), some (.inl x1), some (.inl x2), some (.inl x3), some (.inl x4), none] [] M := by
  unfold f_X12_rings_J155
  refine s_run (b := [(.aload_n 0, 1), (.iload_n 3, 1)]) 157 [some (.inr (.inr x0)), some (.inl x1), some (.inl x2), some (.inl x3), some (.inl x4), none] [.inl x3, .inr (.inr x0)] (by decide +kernel) rfl ?_
  refine s_pI fl_12_195 (Or.inl rfl) rfl (by decide +kernel) (fun M1 => ?_)
  refine s_run (b := [(.aload_n 0, 1), (.iload 4, 2)]) 163 [some (.inr (.inr x0)), some (.inl x1), some (.inl x2), some (.inl x3), some (.inl x4), none] [.inl x4, .inr (.inr x0)] (by decide +kernel) rfl ?_
  refine s_pI fl_12_198 (Or.inl rfl) rfl (by decide +kernel) (fun M2 => ?_)
  refine s_run (b := [(.iinc 3 1, 3), (.goto (-133), 3)]) 36 [some (.inr (.inr x0)), some (.inl x1), some (.inl x2), some (.inl (x3 + (1 : Int32))), some (.inl x4), none] [] (by decide +kernel) rfl ?_
  exact s_lsub (ls' := [some (.inr (.inr x0)), some (.inl x1), some (.inl x2), some (.inl (x3 + (1 : Int32))), none, none]) ⟨rfl, ⟨rfl, ⟨rfl, ⟨rfl, trivial⟩⟩⟩⟩ (kk1 (x3 + (1 : Int32)) M2)
def f_X12_rings_J121 (M : Mem) (x0 : Nat) (x1 : Int32) (x2 : Int32) (x3 : Int32) (x4 : Int32) (y0 : Int32) : Option ((Int32 × Mem) ⊕ ((Mem))) :=
  (pZ M 12 x0 18 y0).bind fun M1 =>
  (if y0 = 0 then
    f_X12_rings_J155 M1 x0 x1 x2 x3 x4 
  else
    (ob M1 12 x0).bind fun _ => (f_X12_off M1 x0 x3 x1).bind fun v3 =>
    (gI M1 12 x0 16).bind fun v4 =>
    (ob M1 12 x0).bind fun _ => (f_X12_off M1 x0 v4 x1).bind fun v5 =>
    (if v3 < v5 then
      f_X12_rings_J155 M1 x0 x1 x2 x3 x4 
    else
      some (.inl ((x3 + (1 : Int32)), M1))))
set_option maxRecDepth 20000 in
theorem J_X12_rings_121 {l : Launch} {G : Gv} {lim : Nat × Nat} (M : Mem) (x0 : Nat) (x1 : Int32) (x2 : Int32) (x3 : Int32) (x4 : Int32) (y0 : Int32) (K : (Int32 × Mem) ⊕ ((Mem)) → Option (Option Value × Mem)) (kk1 : ∀ (s3 : Int32) (s_ : Mem), SimR l G Y_X12_rings lim (K (.inl (s3, s_))) 36 [some (.inr (.inr x0)), some (.inl x1), some (.inl x2), some (.inl s3), none, none] [] s_) (kk2_0 : ∀ (s_ : Mem), SimR l G Y_X12_rings lim (K (.inr s_)) 172 [none, none, none, none, none, none] [] s_) : Sim l G Y_X12_rings lim (f_X12_rings_J121 M x0 x1 x2 x3 x4 y0) K 121 [some (.inr (.inr x0)), some (.inl x1), some (.inl x2), some (.inl x3), some (.inl x4), none] [.inl y0] M := by
  unfold f_X12_rings_J121
  refine s_run (b := [(.istore 5, 2), (.aload_n 0, 1), (.iload 5, 2)]) 126 [some (.inr (.inr x0)), some (.inl x1), some (.inl x2), some (.inl x3), some (.inl x4), some (.inl y0)] [.inl y0, .inr (.inr x0)] (by decide +kernel) rfl ?_
  refine s_pZ fl_12_201 (Or.inl rfl) rfl (by decide +kernel) (fun M1 => ?_)
  refine s_run (b := [(.iload 5, 2)]) 131 [some (.inr (.inr x0)), some (.inl x1), some (.inl x2), some (.inl x3), some (.inl x4), some (.inl y0)] [.inl y0] (by decide +kernel) rfl ?_
  refine s_if_eq (tgt := 155) (off := 24) (by decide +kernel) (by decide) (fun h2 => ?_) (fun h2 => ?_)
  · skip
    exact s_lsub (ls' := [some (.inr (.inr x0)), some (.inl x1), some (.inl x2), some (.inl x3), some (.inl x4), none]) ⟨rfl, ⟨rfl, ⟨rfl, ⟨rfl, ⟨rfl, trivial⟩⟩⟩⟩⟩ (J_X12_rings_155 M1 x0 x1 x2 x3 x4  K kk1 kk2_0)
  · skip
    refine s_run (b := [(.aload_n 0, 1), (.iload_n 3, 1), (.iload_n 1, 1)]) 137 [some (.inr (.inr x0)), some (.inl x1), some (.inl x2), some (.inl x3), some (.inl x4), some (.inl y0)] [.inl x1, .inl x3, .inr (.inr x0)] (by decide +kernel) rfl ?_
    refine s_cV (Z := Y_X12_off) (c := 12) (vs := [.inl x3, .inl x1]) (st := []) (rO := fun z => some (.inl z)) (mO := fun _ => M1) zk_X12_off zi_X12_off q1613 rfl ⟨by decide, by decide⟩ ⟨rfl, rfl⟩ rfl rfl (Nat.le_of_ble_eq_true rfl) (by decide +kernel) (fun z hz => c_X12_off hz) (fun v3 => ?_)
    change Sim l G Y_X12_rings lim _ _ 140 [some (.inr (.inr x0)), some (.inl x1), some (.inl x2), some (.inl x3), some (.inl x4), some (.inl y0)] [.inl v3] M1
    refine s_run (b := [(.aload_n 0, 1), (.aload_n 0, 1)]) 142 [some (.inr (.inr x0)), some (.inl x1), some (.inl x2), some (.inl x3), some (.inl x4), some (.inl y0)] [.inr (.inr x0), .inr (.inr x0), .inl v3] (by decide +kernel) rfl ?_
    refine s_gI fl_12_195 rfl (by decide +kernel) (fun v4 => ?_)
    refine s_run (b := [(.iload_n 1, 1)]) 146 [some (.inr (.inr x0)), some (.inl x1), some (.inl x2), some (.inl x3), some (.inl x4), some (.inl y0)] [.inl x1, .inl v4, .inr (.inr x0), .inl v3] (by decide +kernel) rfl ?_
    refine s_cV (Z := Y_X12_off) (c := 12) (vs := [.inl v4, .inl x1]) (st := [.inl v3]) (rO := fun z => some (.inl z)) (mO := fun _ => M1) zk_X12_off zi_X12_off q1613 rfl ⟨by decide, by decide⟩ ⟨rfl, rfl⟩ rfl rfl (Nat.le_of_ble_eq_true rfl) (by decide +kernel) (fun z hz => c_X12_off hz) (fun v5 => ?_)
    change Sim l G Y_X12_rings lim _ _ 149 [some (.inr (.inr x0)), some (.inl x1), some (.inl x2), some (.inl x3), some (.inl x4), some (.inl y0)] [.inl v5, .inl v3] M1
    refine s_ic_lt (tgt := 155) (off := 6) (by decide +kernel) (by decide) (fun h6 => ?_) (fun h6 => ?_)
    · skip
      exact s_lsub (ls' := [some (.inr (.inr x0)), some (.inl x1), some (.inl x2), some (.inl x3), some (.inl x4), none]) ⟨rfl, ⟨rfl, ⟨rfl, ⟨rfl, ⟨rfl, trivial⟩⟩⟩⟩⟩ (J_X12_rings_155 M1 x0 x1 x2 x3 x4  K kk1 kk2_0)
    · skip
      refine s_run (b := [(.goto 14, 3), (.iinc 3 1, 3), (.goto (-133), 3)]) 36 [some (.inr (.inr x0)), some (.inl x1), some (.inl x2), some (.inl (x3 + (1 : Int32))), some (.inl x4), some (.inl y0)] [] (by decide +kernel) rfl ?_
      exact s_lsub (ls' := [some (.inr (.inr x0)), some (.inl x1), some (.inl x2), some (.inl (x3 + (1 : Int32))), none, none]) ⟨rfl, ⟨rfl, ⟨rfl, ⟨rfl, trivial⟩⟩⟩⟩ (kk1 (x3 + (1 : Int32)) M1)
def f_X12_rings_J99 (M : Mem) (x0 : Nat) (x1 : Int32) (x2 : Int32) (x3 : Int32) (x4 : Int32)  : Option ((Int32 × Mem) ⊕ ((Mem))) :=
  (gI M 12 x0 16).bind fun v1 =>
  (if v1 = (-1 : Int32) then
    f_X12_rings_J121 M x0 x1 x2 x3 x4 (0 : Int32)
  else
    (gI M 12 x0 17).bind fun v3 =>
    (if x4 = v3 then
      f_X12_rings_J121 M x0 x1 x2 x3 x4 (1 : Int32)
    else
      f_X12_rings_J121 M x0 x1 x2 x3 x4 (0 : Int32)))
set_option maxRecDepth 20000 in
theorem J_X12_rings_99 {l : Launch} {G : Gv} {lim : Nat × Nat} (M : Mem) (x0 : Nat) (x1 : Int32) (x2 : Int32) (x3 : Int32) (x4 : Int32)  (K : (Int32 × Mem) ⊕ ((Mem)) → Option (Option Value × Mem)) (kk1 : ∀ (s3 : Int32) (s_ : Mem), SimR l G Y_X12_rings lim (K (.inl (s3, s_))) 36 [some (.inr (.inr x0)), some (.inl x1), some (.inl x2), some (.inl s3), none, none] [] s_) (kk2_0 : ∀ (s_ : Mem), SimR l G Y_X12_rings lim (K (.inr s_)) 172 [none, none, none, none, none, none] [] s_) : Sim l G Y_X12_rings lim (f_X12_rings_J99 M x0 x1 x2 x3 x4) K 99 [some (.inr (.inr x0)), some (.inl x1), some (.inl x2), some (.inl x3), some (.inl x4), none] [] M := by
  unfold f_X12_rings_J99
  refine s_run (b := [(.aload_n 0, 1)]) 100 [some (.inr (.inr x0)), some (.inl x1), some (.inl x2), some (.inl x3), some (.inl x4), none] [.inr (.inr x0)] (by decide +kernel) rfl ?_
  refine s_gI fl_12_195 rfl (by decide +kernel) (fun v1 => ?_)
  refine s_run (b := [(.iconst (-1), 1)]) 104 [some (.inr (.inr x0)), some (.inl x1), some (.inl x2), some (.inl x3), some (.inl x4), none] [.inl (-1 : Int32), .inl v1] (by decide +kernel) rfl ?_
  refine s_ic_eq (tgt := 120) (off := 16) (by decide +kernel) (by decide) (fun h2 => ?_) (fun h2 => ?_)
  · skip
    refine s_run (b := [(.iconst 0, 1)]) 121 [some (.inr (.inr x0)), some (.inl x1), some (.inl x2), some (.inl x3), some (.inl x4), none] [.inl (0 : Int32)] (by decide +kernel) rfl ?_
    exact s_lsub (ls' := [some (.inr (.inr x0)), some (.inl x1), some (.inl x2), some (.inl x3), some (.inl x4), none]) ⟨rfl, ⟨rfl, ⟨rfl, ⟨rfl, ⟨rfl, trivial⟩⟩⟩⟩⟩ (J_X12_rings_121 M x0 x1 x2 x3 x4 (0 : Int32) K kk1 kk2_0)
  · skip
    refine s_run (b := [(.iload 4, 2), (.aload_n 0, 1)]) 110 [some (.inr (.inr x0)), some (.inl x1), some (.inl x2), some (.inl x3), some (.inl x4), none] [.inr (.inr x0), .inl x4] (by decide +kernel) rfl ?_
    refine s_gI fl_12_198 rfl (by decide +kernel) (fun v3 => ?_)
    refine s_ic_ne (tgt := 120) (off := 7) (by decide +kernel) (by decide) (fun h4 => ?_) (fun h4 => ?_)
    · skip
      refine s_run (b := [(.iconst 1, 1), (.goto 4, 3)]) 121 [some (.inr (.inr x0)), some (.inl x1), some (.inl x2), some (.inl x3), some (.inl x4), none] [.inl (1 : Int32)] (by decide +kernel) rfl ?_
      exact s_lsub (ls' := [some (.inr (.inr x0)), some (.inl x1), some (.inl x2), some (.inl x3), some (.inl x4), none]) ⟨rfl, ⟨rfl, ⟨rfl, ⟨rfl, ⟨rfl, trivial⟩⟩⟩⟩⟩ (J_X12_rings_121 M x0 x1 x2 x3 x4 (1 : Int32) K kk1 kk2_0)
    · skip
      refine s_run (b := [(.iconst 0, 1)]) 121 [some (.inr (.inr x0)), some (.inl x1), some (.inl x2), some (.inl x3), some (.inl x4), none] [.inl (0 : Int32)] (by decide +kernel) rfl ?_
      exact s_lsub (ls' := [some (.inr (.inr x0)), some (.inl x1), some (.inl x2), some (.inl x3), some (.inl x4), none]) ⟨rfl, ⟨rfl, ⟨rfl, ⟨rfl, ⟨rfl, trivial⟩⟩⟩⟩⟩ (J_X12_rings_121 M x0 x1 x2 x3 x4 (0 : Int32) K kk1 kk2_0)
def f_X12_rings_J72 (M : Mem) (x0 : Nat) (x1 : Int32) (x2 : Int32) (x3 : Int32) (y0 : Int32) : Option ((Int32 × Mem) ⊕ ((Mem))) :=
  (if y0 = 0 then
    some (.inl ((x3 + (1 : Int32)), M))
  else
    (gI M 12 x0 16).bind fun v2 =>
    (if v2 = (-1 : Int32) then
      f_X12_rings_J99 M x0 x1 x2 x3 y0 
    else
      (gI M 12 x0 17).bind fun v4 =>
      (if y0 ≤ v4 then
        f_X12_rings_J99 M x0 x1 x2 x3 y0 
      else
        some (.inl ((x3 + (1 : Int32)), M)))))
set_option maxRecDepth 20000 in
theorem J_X12_rings_72 {l : Launch} {G : Gv} {lim : Nat × Nat} (M : Mem) (x0 : Nat) (x1 : Int32) (x2 : Int32) (x3 : Int32) (y0 : Int32) (K : (Int32 × Mem) ⊕ ((Mem)) → Option (Option Value × Mem)) (kk1 : ∀ (s3 : Int32) (s_ : Mem), SimR l G Y_X12_rings lim (K (.inl (s3, s_))) 36 [some (.inr (.inr x0)), some (.inl x1), some (.inl x2), some (.inl s3), none, none] [] s_) (kk2_0 : ∀ (s_ : Mem), SimR l G Y_X12_rings lim (K (.inr s_)) 172 [none, none, none, none, none, none] [] s_) : Sim l G Y_X12_rings lim (f_X12_rings_J72 M x0 x1 x2 x3 y0) K 72 [some (.inr (.inr x0)), some (.inl x1), some (.inl x2), some (.inl x3), none, none] [.inl y0] M := by
  unfold f_X12_rings_J72
  refine s_run (b := [(.istore 4, 2), (.iload 4, 2)]) 76 [some (.inr (.inr x0)), some (.inl x1), some (.inl x2), some (.inl x3), some (.inl y0), none] [.inl y0] (by decide +kernel) rfl ?_
  refine s_if_eq (tgt := 166) (off := 90) (by decide +kernel) (by decide) (fun h1 => ?_) (fun h1 => ?_)
  · skip
    refine s_run (b := [(.iinc 3 1, 3), (.goto (-133), 3)]) 36 [some (.inr (.inr x0)), some (.inl x1), some (.inl x2), some (.inl (x3 + (1 : Int32))), some (.inl y0), none] [] (by decide +kernel) rfl ?_
    exact s_lsub (ls' := [some (.inr (.inr x0)), some (.inl x1), some (.inl x2), some (.inl (x3 + (1 : Int32))), none, none]) ⟨rfl, ⟨rfl, ⟨rfl, ⟨rfl, trivial⟩⟩⟩⟩ (kk1 (x3 + (1 : Int32)) M)
  · skip
    refine s_run (b := [(.aload_n 0, 1)]) 80 [some (.inr (.inr x0)), some (.inl x1), some (.inl x2), some (.inl x3), some (.inl y0), none] [.inr (.inr x0)] (by decide +kernel) rfl ?_
    refine s_gI fl_12_195 rfl (by decide +kernel) (fun v2 => ?_)
    refine s_run (b := [(.iconst (-1), 1)]) 84 [some (.inr (.inr x0)), some (.inl x1), some (.inl x2), some (.inl x3), some (.inl y0), none] [.inl (-1 : Int32), .inl v2] (by decide +kernel) rfl ?_
    refine s_ic_eq (tgt := 99) (off := 15) (by decide +kernel) (by decide) (fun h3 => ?_) (fun h3 => ?_)
    · skip
      exact s_lsub (ls' := [some (.inr (.inr x0)), some (.inl x1), some (.inl x2), some (.inl x3), some (.inl y0), none]) ⟨rfl, ⟨rfl, ⟨rfl, ⟨rfl, ⟨rfl, trivial⟩⟩⟩⟩⟩ (J_X12_rings_99 M x0 x1 x2 x3 y0  K kk1 kk2_0)
    · skip
      refine s_run (b := [(.iload 4, 2), (.aload_n 0, 1)]) 90 [some (.inr (.inr x0)), some (.inl x1), some (.inl x2), some (.inl x3), some (.inl y0), none] [.inr (.inr x0), .inl y0] (by decide +kernel) rfl ?_
      refine s_gI fl_12_198 rfl (by decide +kernel) (fun v4 => ?_)
      refine s_ic_le (tgt := 99) (off := 6) (by decide +kernel) (by decide) (fun h5 => ?_) (fun h5 => ?_)
      · skip
        exact s_lsub (ls' := [some (.inr (.inr x0)), some (.inl x1), some (.inl x2), some (.inl x3), some (.inl y0), none]) ⟨rfl, ⟨rfl, ⟨rfl, ⟨rfl, ⟨rfl, trivial⟩⟩⟩⟩⟩ (J_X12_rings_99 M x0 x1 x2 x3 y0  K kk1 kk2_0)
      · skip
        refine s_run (b := [(.goto 70, 3), (.iinc 3 1, 3), (.goto (-133), 3)]) 36 [some (.inr (.inr x0)), some (.inl x1), some (.inl x2), some (.inl (x3 + (1 : Int32))), some (.inl y0), none] [] (by decide +kernel) rfl ?_
        exact s_lsub (ls' := [some (.inr (.inr x0)), some (.inl x1), some (.inl x2), some (.inl (x3 + (1 : Int32))), none, none]) ⟨rfl, ⟨rfl, ⟨rfl, ⟨rfl, trivial⟩⟩⟩⟩ (kk1 (x3 + (1 : Int32)) M)
def f_X12_rings_B36 (M : Mem) (x0 : Nat) (x1 : Int32) (x2 : Int32) (x3 : Int32) : Option ((Int32 × Mem) ⊕ ((Mem))) :=
  (gI M 12 x0 12).bind fun v1 =>
  (if v1 ≤ x3 then
    some (.inr M)
  else
    (f_X12_holds M x2 x3).bind fun v3 =>
    (if v3 = 0 then
      f_X12_rings_J72 M x0 x1 x2 x3 (0 : Int32)
    else
      (ob M 12 x0).bind fun _ => (f_X12_hears M x0 x3 x1).bind fun v5 =>
      (if v5 = 0 then
        f_X12_rings_J72 M x0 x1 x2 x3 (0 : Int32)
      else
        (ob M 12 x0).bind fun _ => (f_X12_ringOf M x0 x3 x1 x2).bind fun v7 =>
        f_X12_rings_J72 M x0 x1 x2 x3 v7)))
def f_X12_rings_L36 (M : Mem) (x0 : Nat) (x1 : Int32) (x2 : Int32) (x3 : Int32) : Option ((Mem)) := iter (fun s : Int32 × Mem => f_X12_rings_B36 s.2 x0 x1 x2 s.1) 1048576 (x3, M)
set_option maxRecDepth 20000 in
theorem B_X12_rings_36 {l : Launch} {G : Gv} {lim : Nat × Nat} (M : Mem) (x0 : Nat) (x1 : Int32) (x2 : Int32) (x3 : Int32) (K : (Int32 × Mem) ⊕ ((Mem)) → Option (Option Value × Mem)) (kk1 : ∀ (s3 : Int32) (s_ : Mem), SimR l G Y_X12_rings lim (K (.inl (s3, s_))) 36 [some (.inr (.inr x0)), some (.inl x1), some (.inl x2), some (.inl s3), none, none] [] s_) (kk2_0 : ∀ (s_ : Mem), SimR l G Y_X12_rings lim (K (.inr s_)) 172 [none, none, none, none, none, none] [] s_) : Sim l G Y_X12_rings lim (f_X12_rings_B36 M x0 x1 x2 x3) K 36 [some (.inr (.inr x0)), some (.inl x1), some (.inl x2), some (.inl x3), none, none] [] M := by
  unfold f_X12_rings_B36
  refine s_run (b := [(.iload_n 3, 1), (.aload_n 0, 1)]) 38 [some (.inr (.inr x0)), some (.inl x1), some (.inl x2), some (.inl x3), none, none] [.inr (.inr x0), .inl x3] (by decide +kernel) rfl ?_
  refine s_gI fl_12_162 rfl (by decide +kernel) (fun v1 => ?_)
  refine s_ic_ge (tgt := 172) (off := 131) (by decide +kernel) (by decide) (fun h2 => ?_) (fun h2 => ?_)
  · skip
    exact s_lsub (ls' := [none, none, none, none, none, none]) trivial (kk2_0 M)
  · skip
    refine s_run (b := [(.iload_n 2, 1), (.iload_n 3, 1)]) 46 [some (.inr (.inr x0)), some (.inl x1), some (.inl x2), some (.inl x3), none, none] [.inl x3, .inl x2] (by decide +kernel) rfl ?_
    refine s_cS (Z := Y_X12_holds) (vs := [.inl x2, .inl x3]) (st := []) (rO := fun z => some (.inl z)) (mO := fun _ => M) zk_X12_holds q1599 q1598 ⟨by decide, by decide⟩ ⟨rfl, rfl⟩ rfl rfl (Nat.le_of_ble_eq_true rfl) (by decide +kernel) (fun z hz => c_X12_holds hz) (fun v3 => ?_)
    change Sim l G Y_X12_rings lim _ _ 49 [some (.inr (.inr x0)), some (.inl x1), some (.inl x2), some (.inl x3), none, none] [.inl v3] M
    refine s_if_eq (tgt := 71) (off := 22) (by decide +kernel) (by decide) (fun h4 => ?_) (fun h4 => ?_)
    · skip
      refine s_run (b := [(.iconst 0, 1)]) 72 [some (.inr (.inr x0)), some (.inl x1), some (.inl x2), some (.inl x3), none, none] [.inl (0 : Int32)] (by decide +kernel) rfl ?_
      exact s_lsub (ls' := [some (.inr (.inr x0)), some (.inl x1), some (.inl x2), some (.inl x3), none, none]) ⟨rfl, ⟨rfl, ⟨rfl, ⟨rfl, trivial⟩⟩⟩⟩ (J_X12_rings_72 M x0 x1 x2 x3 (0 : Int32) K kk1 kk2_0)
    · skip
      refine s_run (b := [(.aload_n 0, 1), (.iload_n 3, 1), (.iload_n 1, 1)]) 55 [some (.inr (.inr x0)), some (.inl x1), some (.inl x2), some (.inl x3), none, none] [.inl x1, .inl x3, .inr (.inr x0)] (by decide +kernel) rfl ?_
      refine s_cV (Z := Y_X12_hears) (c := 12) (vs := [.inl x3, .inl x1]) (st := []) (rO := fun z => some (.inl z)) (mO := fun _ => M) zk_X12_hears zi_X12_hears q1609 rfl ⟨by decide, by decide⟩ ⟨rfl, rfl⟩ rfl rfl (Nat.le_of_ble_eq_true rfl) (by decide +kernel) (fun z hz => c_X12_hears hz) (fun v5 => ?_)
      change Sim l G Y_X12_rings lim _ _ 58 [some (.inr (.inr x0)), some (.inl x1), some (.inl x2), some (.inl x3), none, none] [.inl v5] M
      refine s_if_eq (tgt := 71) (off := 13) (by decide +kernel) (by decide) (fun h6 => ?_) (fun h6 => ?_)
      · skip
        refine s_run (b := [(.iconst 0, 1)]) 72 [some (.inr (.inr x0)), some (.inl x1), some (.inl x2), some (.inl x3), none, none] [.inl (0 : Int32)] (by decide +kernel) rfl ?_
        exact s_lsub (ls' := [some (.inr (.inr x0)), some (.inl x1), some (.inl x2), some (.inl x3), none, none]) ⟨rfl, ⟨rfl, ⟨rfl, ⟨rfl, trivial⟩⟩⟩⟩ (J_X12_rings_72 M x0 x1 x2 x3 (0 : Int32) K kk1 kk2_0)
      · skip
        refine s_run (b := [(.aload_n 0, 1), (.iload_n 3, 1), (.iload_n 1, 1), (.iload_n 2, 1)]) 65 [some (.inr (.inr x0)), some (.inl x1), some (.inl x2), some (.inl x3), none, none] [.inl x2, .inl x1, .inl x3, .inr (.inr x0)] (by decide +kernel) rfl ?_
        refine s_cV (Z := Y_X12_ringOf) (c := 12) (vs := [.inl x3, .inl x1, .inl x2]) (st := []) (rO := fun z => some (.inl z)) (mO := fun _ => M) zk_X12_ringOf zi_X12_ringOf q1617 rfl ⟨by decide, by decide⟩ ⟨rfl, rfl⟩ rfl rfl (Nat.le_of_ble_eq_true rfl) (by decide +kernel) (fun z hz => c_X12_ringOf hz) (fun v7 => ?_)
        change Sim l G Y_X12_rings lim _ _ 68 [some (.inr (.inr x0)), some (.inl x1), some (.inl x2), some (.inl x3), none, none] [.inl v7] M
        refine s_run (b := [(.goto 4, 3)]) 72 [some (.inr (.inr x0)), some (.inl x1), some (.inl x2), some (.inl x3), none, none] [.inl v7] (by decide +kernel) rfl ?_
        exact s_lsub (ls' := [some (.inr (.inr x0)), some (.inl x1), some (.inl x2), some (.inl x3), none, none]) ⟨rfl, ⟨rfl, ⟨rfl, ⟨rfl, trivial⟩⟩⟩⟩ (J_X12_rings_72 M x0 x1 x2 x3 v7 K kk1 kk2_0)
set_option maxRecDepth 20000 in
theorem L_X12_rings_36 {l : Launch} {G : Gv} {lim : Nat × Nat} (M : Mem) (x0 : Nat) (x1 : Int32) (x2 : Int32) (x3 : Int32) (K : ((Mem)) → Option (Option Value × Mem)) (kk2_0 : ∀ r : Mem, SimR l G Y_X12_rings lim (K r) 172 [none, none, none, none, none, none] [] r) : Sim l G Y_X12_rings lim (f_X12_rings_L36 M x0 x1 x2 x3) K 36 [some (.inr (.inr x0)), some (.inl x1), some (.inl x2), some (.inl x3), none, none] [] M :=
  s_iter (f := fun s : Int32 × Mem => f_X12_rings_B36 s.2 x0 x1 x2 s.1) (hd := 36) (cl := fun s => [some (.inr (.inr x0)), some (.inl x1), some (.inl x2), some (.inl s.1), none, none]) (cm := fun s => s.2) (xp := fun _ => 172) (xl := fun r => [none, none, none, none, none, none]) (xm := fun r => r) (fun s K h1 h2 => B_X12_rings_36 s.2 x0 x1 x2 s.1 K (fun a3 a_ => h1 (a3, a_)) (fun a_ => h2 a_)) 1048576 (x3, M) K kk2_0
def f_X12_rings (M : Mem) (x0 : Nat) (x1 : Int32) (x2 : Int32) : Option (Mem) :=
  (pI M 12 x0 16 (-1 : Int32)).bind fun M1 =>
  (pI M1 12 x0 17 (-1 : Int32)).bind fun M2 =>
  (pZ M2 12 x0 18 (0 : Int32)).bind fun M3 =>
  (f_X12_holds M3 x2 x1).bind fun v4 =>
  (if v4 = 0 then
    (f_X12_rings_L36 M3 x0 x1 x2 (0 : Int32)).bind fun r6 =>
    some r6
  else
    (pI M3 12 x0 16 x1).bind fun M7 =>
    (pI M7 12 x0 17 (1 : Int32)).bind fun M8 =>
    some M8)
set_option maxRecDepth 20000 in
theorem S_X12_rings {l : Launch} {G : Gv} {lim : Nat × Nat} (M : Mem) (x0 : Nat) (x1 : Int32) (x2 : Int32) : Sim l G Y_X12_rings lim (f_X12_rings M x0 x1 x2) (fun z => some (none, z)) 0 [some (.inr (.inr x0)), some (.inl x1), some (.inl x2), none, none, none] [] M := by
  unfold f_X12_rings
  refine s_run (b := [(.aload_n 0, 1), (.iconst (-1), 1)]) 2 [some (.inr (.inr x0)), some (.inl x1), some (.inl x2), none, none, none] [.inl (-1 : Int32), .inr (.inr x0)] (by decide +kernel) rfl ?_
  refine s_pI fl_12_195 (Or.inl rfl) rfl (by decide +kernel) (fun M1 => ?_)
  refine s_run (b := [(.aload_n 0, 1), (.iconst (-1), 1)]) 7 [some (.inr (.inr x0)), some (.inl x1), some (.inl x2), none, none, none] [.inl (-1 : Int32), .inr (.inr x0)] (by decide +kernel) rfl ?_
  refine s_pI fl_12_198 (Or.inl rfl) rfl (by decide +kernel) (fun M2 => ?_)
  refine s_run (b := [(.aload_n 0, 1), (.iconst 0, 1)]) 12 [some (.inr (.inr x0)), some (.inl x1), some (.inl x2), none, none, none] [.inl (0 : Int32), .inr (.inr x0)] (by decide +kernel) rfl ?_
  refine s_pZ fl_12_201 (Or.inl rfl) rfl (by decide +kernel) (fun M3 => ?_)
  refine s_run (b := [(.iload_n 2, 1), (.iload_n 1, 1)]) 17 [some (.inr (.inr x0)), some (.inl x1), some (.inl x2), none, none, none] [.inl x1, .inl x2] (by decide +kernel) rfl ?_
  refine s_cS (Z := Y_X12_holds) (vs := [.inl x2, .inl x1]) (st := []) (rO := fun z => some (.inl z)) (mO := fun _ => M3) zk_X12_holds q1599 q1598 ⟨by decide, by decide⟩ ⟨rfl, rfl⟩ rfl rfl (Nat.le_of_ble_eq_true rfl) (by decide +kernel) (fun z hz => c_X12_holds hz) (fun v4 => ?_)
  change Sim l G Y_X12_rings lim _ _ 20 [some (.inr (.inr x0)), some (.inl x1), some (.inl x2), none, none, none] [.inl v4] M3
  refine s_if_eq (tgt := 34) (off := 14) (by decide +kernel) (by decide) (fun h5 => ?_) (fun h5 => ?_)
  · skip
    refine s_run (b := [(.iconst 0, 1), (.istore_n 3, 1)]) 36 [some (.inr (.inr x0)), some (.inl x1), some (.inl x2), some (.inl (0 : Int32)), none, none] [] (by decide +kernel) rfl ?_
    refine s_lsub (ls' := [some (.inr (.inr x0)), some (.inl x1), some (.inl x2), some (.inl (0 : Int32)), none, none]) ⟨rfl, ⟨rfl, ⟨rfl, ⟨rfl, trivial⟩⟩⟩⟩ ?_
    refine sim_bind (L_X12_rings_36 M3 x0 x1 x2 (0 : Int32) _ (fun r6 => ?_))
    change Sim l G Y_X12_rings lim _ _ 172 [none, none, none, none, none, none] [] r6
    exact s_vret (by decide +kernel) rfl
  · skip
    refine s_run (b := [(.aload_n 0, 1), (.iload_n 1, 1)]) 25 [some (.inr (.inr x0)), some (.inl x1), some (.inl x2), none, none, none] [.inl x1, .inr (.inr x0)] (by decide +kernel) rfl ?_
    refine s_pI fl_12_195 (Or.inl rfl) rfl (by decide +kernel) (fun M7 => ?_)
    refine s_run (b := [(.aload_n 0, 1), (.iconst 1, 1)]) 30 [some (.inr (.inr x0)), some (.inl x1), some (.inl x2), none, none, none] [.inl (1 : Int32), .inr (.inr x0)] (by decide +kernel) rfl ?_
    refine s_pI fl_12_198 (Or.inl rfl) rfl (by decide +kernel) (fun M8 => ?_)
    exact s_vret (by decide +kernel) rfl
set_option maxRecDepth 20000 in
theorem c_X12_rings {l : Launch} {G : Gv} {M : Mem} {x0 : Nat} {x1 : Int32} {x2 : Int32} {z : Mem} (h : f_X12_rings M x0 x1 x2 = some z) : MetS l G Y_X12_rings [.inr (.inr x0), .inl x1, .inl x2] M none z :=
  met_of (ls0 := [some (.inr (.inr x0)), some (.inl x1), some (.inl x2), none, none, none]) (by decide) rfl (lv_in (m := 3) rfl) (sl_le (Nat.le_of_ble_eq_true rfl)) (by rw [h]; rfl) (Or.inl ⟨rfl, rfl⟩) (S_X12_rings M x0 x1 x2)
def f_X12_called_J96 (M : Mem)  (y0 : Nat) (y1 : Int32) (y2 : Int32) : Option (Mem) :=
  (pI M 12 y0 22 (y1 + y2)).bind fun M1 =>
  some M1
set_option maxRecDepth 20000 in
theorem J_X12_called_96 {l : Launch} {G : Gv} {lim : Nat × Nat} (M : Mem)  (y0 : Nat) (y1 : Int32) (y2 : Int32)  : Sim l G Y_X12_called lim (f_X12_called_J96 M y0 y1 y2) (fun z => some (none, z)) 96 [none, none, none, none] [.inl y2, .inl y1, .inr (.inr y0)] M := by
  unfold f_X12_called_J96
  refine s_run (b := [(.iadd, 1)]) 97 [none, none, none, none] [.inl (y1 + y2), .inr (.inr y0)] (by decide +kernel) rfl ?_
  refine s_pI fl_12_223 (Or.inl rfl) rfl (by decide +kernel) (fun M1 => ?_)
  exact s_vret (by decide +kernel) rfl
def f_X12_called_J78 (M : Mem) (x0 : Nat) (x3 : Int32) (y0 : Nat) (y1 : Int32) (y2 : Int32) : Option (Mem) :=
  (pI M 12 y0 23 (y1 + y2)).bind fun M1 =>
  (gI M1 12 x0 22).bind fun v2 =>
  (if x3 = 0 then
    f_X12_called_J96 M1  x0 v2 (1 : Int32)
  else
    f_X12_called_J96 M1  x0 v2 (0 : Int32))
set_option maxRecDepth 20000 in
theorem J_X12_called_78 {l : Launch} {G : Gv} {lim : Nat × Nat} (M : Mem) (x0 : Nat) (x3 : Int32) (y0 : Nat) (y1 : Int32) (y2 : Int32)  : Sim l G Y_X12_called lim (f_X12_called_J78 M x0 x3 y0 y1 y2) (fun z => some (none, z)) 78 [some (.inr (.inr x0)), none, none, some (.inl x3)] [.inl y2, .inl y1, .inr (.inr y0)] M := by
  unfold f_X12_called_J78
  refine s_run (b := [(.iadd, 1)]) 79 [some (.inr (.inr x0)), none, none, some (.inl x3)] [.inl (y1 + y2), .inr (.inr y0)] (by decide +kernel) rfl ?_
  refine s_pI fl_12_226 (Or.inl rfl) rfl (by decide +kernel) (fun M1 => ?_)
  refine s_run (b := [(.aload_n 0, 1), (.dup, 1)]) 84 [some (.inr (.inr x0)), none, none, some (.inl x3)] [.inr (.inr x0), .inr (.inr x0)] (by decide +kernel) rfl ?_
  refine s_gI fl_12_223 rfl (by decide +kernel) (fun v2 => ?_)
  refine s_run (b := [(.iload_n 3, 1)]) 88 [some (.inr (.inr x0)), none, none, some (.inl x3)] [.inl x3, .inl v2, .inr (.inr x0)] (by decide +kernel) rfl ?_
  refine s_if_eq (tgt := 95) (off := 7) (by decide +kernel) (by decide) (fun h3 => ?_) (fun h3 => ?_)
  · skip
    refine s_run (b := [(.iconst 1, 1)]) 96 [some (.inr (.inr x0)), none, none, some (.inl x3)] [.inl (1 : Int32), .inl v2, .inr (.inr x0)] (by decide +kernel) rfl ?_
    exact s_lsub (ls' := [none, none, none, none]) trivial (J_X12_called_96 M1  x0 v2 (1 : Int32))
  · skip
    refine s_run (b := [(.iconst 0, 1), (.goto 4, 3)]) 96 [some (.inr (.inr x0)), none, none, some (.inl x3)] [.inl (0 : Int32), .inl v2, .inr (.inr x0)] (by decide +kernel) rfl ?_
    exact s_lsub (ls' := [none, none, none, none]) trivial (J_X12_called_96 M1  x0 v2 (0 : Int32))
def f_X12_called_J63 (M : Mem) (x0 : Nat) (y0 : Int32) : Option (Mem) :=
  (gI M 12 x0 23).bind fun v1 =>
  (if y0 = 0 then
    f_X12_called_J78 M x0 y0 x0 v1 (0 : Int32)
  else
    f_X12_called_J78 M x0 y0 x0 v1 (1 : Int32))
set_option maxRecDepth 20000 in
theorem J_X12_called_63 {l : Launch} {G : Gv} {lim : Nat × Nat} (M : Mem) (x0 : Nat) (y0 : Int32)  : Sim l G Y_X12_called lim (f_X12_called_J63 M x0 y0) (fun z => some (none, z)) 63 [some (.inr (.inr x0)), none, none, none] [.inl y0] M := by
  unfold f_X12_called_J63
  refine s_run (b := [(.istore_n 3, 1), (.aload_n 0, 1), (.dup, 1)]) 66 [some (.inr (.inr x0)), none, none, some (.inl y0)] [.inr (.inr x0), .inr (.inr x0)] (by decide +kernel) rfl ?_
  refine s_gI fl_12_226 rfl (by decide +kernel) (fun v1 => ?_)
  refine s_run (b := [(.iload_n 3, 1)]) 70 [some (.inr (.inr x0)), none, none, some (.inl y0)] [.inl y0, .inl v1, .inr (.inr x0)] (by decide +kernel) rfl ?_
  refine s_if_eq (tgt := 77) (off := 7) (by decide +kernel) (by decide) (fun h2 => ?_) (fun h2 => ?_)
  · skip
    refine s_run (b := [(.iconst 0, 1)]) 78 [some (.inr (.inr x0)), none, none, some (.inl y0)] [.inl (0 : Int32), .inl v1, .inr (.inr x0)] (by decide +kernel) rfl ?_
    exact s_lsub (ls' := [some (.inr (.inr x0)), none, none, some (.inl y0)]) ⟨rfl, ⟨rfl, trivial⟩⟩ (J_X12_called_78 M x0 y0 x0 v1 (0 : Int32))
  · skip
    refine s_run (b := [(.iconst 1, 1), (.goto 4, 3)]) 78 [some (.inr (.inr x0)), none, none, some (.inl y0)] [.inl (1 : Int32), .inl v1, .inr (.inr x0)] (by decide +kernel) rfl ?_
    exact s_lsub (ls' := [some (.inr (.inr x0)), none, none, some (.inl y0)]) ⟨rfl, ⟨rfl, trivial⟩⟩ (J_X12_called_78 M x0 y0 x0 v1 (1 : Int32))
def f_X12_called_J153 (M : Mem) (x0 : Nat) (x2 : Int32) (y0 : Nat) (y1 : Int32) (y2 : Int32) : Option (Mem) :=
  (pI M 12 y0 26 (y1 + y2)).bind fun M1 =>
  (gI M1 12 x0 16).bind fun v2 =>
  (if v2 = x2 then
    some M1
  else
    (gR M1 12 x0 14).bind fun v4 =>
    (gI M1 12 x0 16).bind fun v5 =>
    (aI M1 0 v4 v5).bind fun v6 =>
    (sI M1 0 v4 v5 (v6 + (1 : Int32))).bind fun M7 =>
    (gI M7 12 x0 25).bind fun v8 =>
    (gI M7 12 x0 16).bind fun v9 =>
    (ob M7 12 x0).bind fun _ => (f_X12_of M7 x0 v9 (3 : Int32)).bind fun v10 =>
    (pI M7 12 x0 25 (v8 + v10)).bind fun M11 =>
    (gR M11 12 x0 28).bind fun v12 =>
    (aI M11 0 v12 x2).bind fun v13 =>
    (sI M11 0 v12 x2 (v13 + (1 : Int32))).bind fun M14 =>
    some M14)
set_option maxRecDepth 20000 in
theorem J_X12_called_153 {l : Launch} {G : Gv} {lim : Nat × Nat} (M : Mem) (x0 : Nat) (x2 : Int32) (y0 : Nat) (y1 : Int32) (y2 : Int32)  : Sim l G Y_X12_called lim (f_X12_called_J153 M x0 x2 y0 y1 y2) (fun z => some (none, z)) 153 [some (.inr (.inr x0)), none, some (.inl x2), none] [.inl y2, .inl y1, .inr (.inr y0)] M := by
  unfold f_X12_called_J153
  refine s_run (b := [(.iadd, 1)]) 154 [some (.inr (.inr x0)), none, some (.inl x2), none] [.inl (y1 + y2), .inr (.inr y0)] (by decide +kernel) rfl ?_
  refine s_pI fl_12_235 (Or.inl rfl) rfl (by decide +kernel) (fun M1 => ?_)
  refine s_run (b := [(.aload_n 0, 1)]) 158 [some (.inr (.inr x0)), none, some (.inl x2), none] [.inr (.inr x0)] (by decide +kernel) rfl ?_
  refine s_gI fl_12_195 rfl (by decide +kernel) (fun v2 => ?_)
  refine s_run (b := [(.iload_n 2, 1)]) 162 [some (.inr (.inr x0)), none, some (.inl x2), none] [.inl x2, .inl v2] (by decide +kernel) rfl ?_
  refine s_ic_ne (tgt := 166) (off := 4) (by decide +kernel) (by decide) (fun h3 => ?_) (fun h3 => ?_)
  · skip
    exact s_vret (by decide +kernel) rfl
  · skip
    refine s_run (b := [(.aload_n 0, 1)]) 167 [some (.inr (.inr x0)), none, some (.inl x2), none] [.inr (.inr x0)] (by decide +kernel) rfl ?_
    refine s_gR fl_12_20 rfl (by decide +kernel) (fun v4 => ?_)
    refine s_run (b := [(.aload_n 0, 1)]) 171 [some (.inr (.inr x0)), none, some (.inl x2), none] [.inr (.inr x0), .inr (.inr v4)] (by decide +kernel) rfl ?_
    refine s_gI fl_12_195 rfl (by decide +kernel) (fun v5 => ?_)
    refine s_run (b := [(.dup2, 1)]) 175 [some (.inr (.inr x0)), none, some (.inl x2), none] [.inl v5, .inr (.inr v4), .inl v5, .inr (.inr v4)] (by decide +kernel) rfl ?_
    refine s_ia (by decide +kernel) (fun v6 => ?_)
    refine s_run (b := [(.iconst 1, 1), (.iadd, 1)]) 178 [some (.inr (.inr x0)), none, some (.inl x2), none] [.inl (v6 + (1 : Int32)), .inl v5, .inr (.inr v4)] (by decide +kernel) rfl ?_
    refine s_is (by decide +kernel) (fun M7 => ?_)
    refine s_run (b := [(.aload_n 0, 1), (.dup, 1)]) 181 [some (.inr (.inr x0)), none, some (.inl x2), none] [.inr (.inr x0), .inr (.inr x0)] (by decide +kernel) rfl ?_
    refine s_gI fl_12_232 rfl (by decide +kernel) (fun v8 => ?_)
    refine s_run (b := [(.aload_n 0, 1), (.aload_n 0, 1)]) 186 [some (.inr (.inr x0)), none, some (.inl x2), none] [.inr (.inr x0), .inr (.inr x0), .inl v8, .inr (.inr x0)] (by decide +kernel) rfl ?_
    refine s_gI fl_12_195 rfl (by decide +kernel) (fun v9 => ?_)
    refine s_run (b := [(.iconst 3, 1)]) 190 [some (.inr (.inr x0)), none, some (.inl x2), none] [.inl (3 : Int32), .inl v9, .inr (.inr x0), .inl v8, .inr (.inr x0)] (by decide +kernel) rfl ?_
    refine s_cV (Z := Y_X12_of) (c := 12) (vs := [.inl v9, .inl (3 : Int32)]) (st := [.inl v8, .inr (.inr x0)]) (rO := fun z => some (.inl z)) (mO := fun _ => M7) zk_X12_of zi_X12_of q1558 rfl ⟨by decide, by decide⟩ ⟨rfl, rfl⟩ rfl rfl (Nat.le_of_ble_eq_true rfl) (by decide +kernel) (fun z hz => c_X12_of hz) (fun v10 => ?_)
    change Sim l G Y_X12_called lim _ _ 193 [some (.inr (.inr x0)), none, some (.inl x2), none] [.inl v10, .inl v8, .inr (.inr x0)] M7
    refine s_run (b := [(.iadd, 1)]) 194 [some (.inr (.inr x0)), none, some (.inl x2), none] [.inl (v8 + v10), .inr (.inr x0)] (by decide +kernel) rfl ?_
    refine s_pI fl_12_232 (Or.inl rfl) rfl (by decide +kernel) (fun M11 => ?_)
    refine s_run (b := [(.aload_n 0, 1)]) 198 [some (.inr (.inr x0)), none, some (.inl x2), none] [.inr (.inr x0)] (by decide +kernel) rfl ?_
    refine s_gR fl_12_26 rfl (by decide +kernel) (fun v12 => ?_)
    refine s_run (b := [(.iload_n 2, 1), (.dup2, 1)]) 203 [some (.inr (.inr x0)), none, some (.inl x2), none] [.inl x2, .inr (.inr v12), .inl x2, .inr (.inr v12)] (by decide +kernel) rfl ?_
    refine s_ia (by decide +kernel) (fun v13 => ?_)
    refine s_run (b := [(.iconst 1, 1), (.iadd, 1)]) 206 [some (.inr (.inr x0)), none, some (.inl x2), none] [.inl (v13 + (1 : Int32)), .inl x2, .inr (.inr v12)] (by decide +kernel) rfl ?_
    refine s_is (by decide +kernel) (fun M14 => ?_)
    exact s_vret (by decide +kernel) rfl
def f_X12_called (M : Mem) (x0 : Nat) (x1 : Int32) : Option (Mem) :=
  (ob M 12 x0).bind fun _ => (f_X12_ofCall M x0 x1 (0 : Int32)).bind fun v1 =>
  (gI M 12 x0 20).bind fun v2 =>
  (ob M 12 x0).bind fun _ => (f_X12_rings M x0 v1 v2).bind fun z3 =>
  (ob z3 12 x0).bind fun _ => (f_X12_isLifted z3 x0 x1).bind fun v4 =>
  (if v4 = 0 then
    (gR z3 12 x0 0).bind fun v6 =>
    (gI z3 12 x0 11).bind fun v7 =>
    (aI z3 0 v6 (v7 + (3 : Int32))).bind fun v8 =>
    (if v8 ≤ 0 then
      f_X12_called_J63 z3 x0 (0 : Int32)
    else
      (gR z3 12 x0 0).bind fun v10 =>
      (gI z3 12 x0 11).bind fun v11 =>
      (aI z3 0 v10 (v11 + (3 : Int32))).bind fun v12 =>
      (ob z3 12 x0).bind fun _ => (f_X12_ofCall z3 x0 x1 (2 : Int32)).bind fun v13 =>
      (if v13 < v12 then
        f_X12_called_J63 z3 x0 (0 : Int32)
      else
        f_X12_called_J63 z3 x0 (1 : Int32)))
  else
    (gI z3 12 x0 21).bind fun v15 =>
    (pI z3 12 x0 21 (v15 ||| ((1 : Int32) <<< (x1 &&& 31)))).bind fun M16 =>
    (gI M16 12 x0 24).bind fun v17 =>
    (ob M16 12 x0).bind fun _ => (f_X12_ofCall M16 x0 x1 (1 : Int32)).bind fun v18 =>
    (gI M16 12 x0 17).bind fun v19 =>
    (ob M16 12 x0).bind fun _ => (f_X12_gotBy M16 x0 v18 v19).bind fun v20 =>
    (pI M16 12 x0 24 (v17 + v20)).bind fun M21 =>
    (gI M21 12 x0 26).bind fun v22 =>
    (gI M21 12 x0 18).bind fun v23 =>
    (if v23 = 0 then
      f_X12_called_J153 M21 x0 v1 x0 v22 (0 : Int32)
    else
      f_X12_called_J153 M21 x0 v1 x0 v22 (1 : Int32)))
set_option maxRecDepth 20000 in
theorem S_X12_called {l : Launch} {G : Gv} {lim : Nat × Nat} (M : Mem) (x0 : Nat) (x1 : Int32) : Sim l G Y_X12_called lim (f_X12_called M x0 x1) (fun z => some (none, z)) 0 [some (.inr (.inr x0)), some (.inl x1), none, none] [] M := by
  unfold f_X12_called
  refine s_run (b := [(.aload_n 0, 1), (.iload_n 1, 1), (.iconst 0, 1)]) 3 [some (.inr (.inr x0)), some (.inl x1), none, none] [.inl (0 : Int32), .inl x1, .inr (.inr x0)] (by decide +kernel) rfl ?_
  refine s_cV (Z := Y_X12_ofCall) (c := 12) (vs := [.inl x1, .inl (0 : Int32)]) (st := []) (rO := fun z => some (.inl z)) (mO := fun _ => M) zk_X12_ofCall zi_X12_ofCall q1566 rfl ⟨by decide, by decide⟩ ⟨rfl, rfl⟩ rfl rfl (Nat.le_of_ble_eq_true rfl) (by decide +kernel) (fun z hz => c_X12_ofCall hz) (fun v1 => ?_)
  change Sim l G Y_X12_called lim _ _ 6 [some (.inr (.inr x0)), some (.inl x1), none, none] [.inl v1] M
  refine s_run (b := [(.istore_n 2, 1), (.aload_n 0, 1), (.iload_n 2, 1), (.aload_n 0, 1)]) 10 [some (.inr (.inr x0)), some (.inl x1), some (.inl v1), none] [.inr (.inr x0), .inl v1, .inr (.inr x0)] (by decide +kernel) rfl ?_
  refine s_gI fl_12_217 rfl (by decide +kernel) (fun v2 => ?_)
  refine s_cV (Z := Y_X12_rings) (c := 12) (vs := [.inl v1, .inl v2]) (st := []) (rO := fun _ => none) (mO := fun z => z) zk_X12_rings zi_X12_rings q1605 rfl ⟨by decide, by decide⟩ ⟨rfl, rfl⟩ rfl rfl (Nat.le_of_ble_eq_true rfl) (by decide +kernel) (fun z hz => c_X12_rings hz) (fun z3 => ?_)
  change Sim l G Y_X12_called lim _ _ 16 [some (.inr (.inr x0)), some (.inl x1), some (.inl v1), none] [] z3
  refine s_run (b := [(.aload_n 0, 1), (.iload_n 1, 1)]) 18 [some (.inr (.inr x0)), some (.inl x1), some (.inl v1), none] [.inl x1, .inr (.inr x0)] (by decide +kernel) rfl ?_
  refine s_cV (Z := Y_X12_isLifted) (c := 12) (vs := [.inl x1]) (st := []) (rO := fun z => some (.inl z)) (mO := fun _ => z3) zk_X12_isLifted zi_X12_isLifted q1625 rfl ⟨by decide, by decide⟩ ⟨rfl, rfl⟩ rfl rfl (Nat.le_of_ble_eq_true rfl) (by decide +kernel) (fun z hz => c_X12_isLifted hz) (fun v4 => ?_)
  change Sim l G Y_X12_called lim _ _ 21 [some (.inr (.inr x0)), some (.inl x1), some (.inl v1), none] [.inl v4] z3
  refine s_if_ne (tgt := 101) (off := 80) (by decide +kernel) (by decide) (fun h5 => ?_) (fun h5 => ?_)
  · skip
    refine s_run (b := [(.aload_n 0, 1)]) 25 [some (.inr (.inr x0)), some (.inl x1), some (.inl v1), none] [.inr (.inr x0)] (by decide +kernel) rfl ?_
    refine s_gR fl_12_7 rfl (by decide +kernel) (fun v6 => ?_)
    refine s_run (b := [(.aload_n 0, 1)]) 29 [some (.inr (.inr x0)), some (.inl x1), some (.inl v1), none] [.inr (.inr x0), .inr (.inr v6)] (by decide +kernel) rfl ?_
    refine s_gI fl_12_159 rfl (by decide +kernel) (fun v7 => ?_)
    refine s_run (b := [(.iconst 3, 1), (.iadd, 1)]) 34 [some (.inr (.inr x0)), some (.inl x1), some (.inl v1), none] [.inl (v7 + (3 : Int32)), .inr (.inr v6)] (by decide +kernel) rfl ?_
    refine s_ia (by decide +kernel) (fun v8 => ?_)
    refine s_if_le (tgt := 62) (off := 27) (by decide +kernel) (by decide) (fun h9 => ?_) (fun h9 => ?_)
    · skip
      refine s_run (b := [(.iconst 0, 1)]) 63 [some (.inr (.inr x0)), some (.inl x1), some (.inl v1), none] [.inl (0 : Int32)] (by decide +kernel) rfl ?_
      exact s_lsub (ls' := [some (.inr (.inr x0)), none, none, none]) ⟨rfl, trivial⟩ (J_X12_called_63 z3 x0 (0 : Int32))
    · skip
      refine s_run (b := [(.aload_n 0, 1)]) 39 [some (.inr (.inr x0)), some (.inl x1), some (.inl v1), none] [.inr (.inr x0)] (by decide +kernel) rfl ?_
      refine s_gR fl_12_7 rfl (by decide +kernel) (fun v10 => ?_)
      refine s_run (b := [(.aload_n 0, 1)]) 43 [some (.inr (.inr x0)), some (.inl x1), some (.inl v1), none] [.inr (.inr x0), .inr (.inr v10)] (by decide +kernel) rfl ?_
      refine s_gI fl_12_159 rfl (by decide +kernel) (fun v11 => ?_)
      refine s_run (b := [(.iconst 3, 1), (.iadd, 1)]) 48 [some (.inr (.inr x0)), some (.inl x1), some (.inl v1), none] [.inl (v11 + (3 : Int32)), .inr (.inr v10)] (by decide +kernel) rfl ?_
      refine s_ia (by decide +kernel) (fun v12 => ?_)
      refine s_run (b := [(.aload_n 0, 1), (.iload_n 1, 1), (.iconst 2, 1)]) 52 [some (.inr (.inr x0)), some (.inl x1), some (.inl v1), none] [.inl (2 : Int32), .inl x1, .inr (.inr x0), .inl v12] (by decide +kernel) rfl ?_
      refine s_cV (Z := Y_X12_ofCall) (c := 12) (vs := [.inl x1, .inl (2 : Int32)]) (st := [.inl v12]) (rO := fun z => some (.inl z)) (mO := fun _ => z3) zk_X12_ofCall zi_X12_ofCall q1566 rfl ⟨by decide, by decide⟩ ⟨rfl, rfl⟩ rfl rfl (Nat.le_of_ble_eq_true rfl) (by decide +kernel) (fun z hz => c_X12_ofCall hz) (fun v13 => ?_)
      change Sim l G Y_X12_called lim _ _ 55 [some (.inr (.inr x0)), some (.inl x1), some (.inl v1), none] [.inl v13, .inl v12] z3
      refine s_ic_gt (tgt := 62) (off := 7) (by decide +kernel) (by decide) (fun h14 => ?_) (fun h14 => ?_)
      · skip
        refine s_run (b := [(.iconst 0, 1)]) 63 [some (.inr (.inr x0)), some (.inl x1), some (.inl v1), none] [.inl (0 : Int32)] (by decide +kernel) rfl ?_
        exact s_lsub (ls' := [some (.inr (.inr x0)), none, none, none]) ⟨rfl, trivial⟩ (J_X12_called_63 z3 x0 (0 : Int32))
      · skip
        refine s_run (b := [(.iconst 1, 1), (.goto 4, 3)]) 63 [some (.inr (.inr x0)), some (.inl x1), some (.inl v1), none] [.inl (1 : Int32)] (by decide +kernel) rfl ?_
        exact s_lsub (ls' := [some (.inr (.inr x0)), none, none, none]) ⟨rfl, trivial⟩ (J_X12_called_63 z3 x0 (1 : Int32))
  · skip
    refine s_run (b := [(.aload_n 0, 1), (.dup, 1)]) 103 [some (.inr (.inr x0)), some (.inl x1), some (.inl v1), none] [.inr (.inr x0), .inr (.inr x0)] (by decide +kernel) rfl ?_
    refine s_gI fl_12_220 rfl (by decide +kernel) (fun v15 => ?_)
    refine s_run (b := [(.iconst 1, 1), (.iload_n 1, 1), (.ishl, 1), (.ior, 1)]) 110 [some (.inr (.inr x0)), some (.inl x1), some (.inl v1), none] [.inl (v15 ||| ((1 : Int32) <<< (x1 &&& 31))), .inr (.inr x0)] (by decide +kernel) rfl ?_
    refine s_pI fl_12_220 (Or.inl rfl) rfl (by decide +kernel) (fun M16 => ?_)
    refine s_run (b := [(.aload_n 0, 1), (.dup, 1)]) 115 [some (.inr (.inr x0)), some (.inl x1), some (.inl v1), none] [.inr (.inr x0), .inr (.inr x0)] (by decide +kernel) rfl ?_
    refine s_gI fl_12_229 rfl (by decide +kernel) (fun v17 => ?_)
    refine s_run (b := [(.aload_n 0, 1), (.aload_n 0, 1), (.iload_n 1, 1), (.iconst 1, 1)]) 122 [some (.inr (.inr x0)), some (.inl x1), some (.inl v1), none] [.inl (1 : Int32), .inl x1, .inr (.inr x0), .inr (.inr x0), .inl v17, .inr (.inr x0)] (by decide +kernel) rfl ?_
    refine s_cV (Z := Y_X12_ofCall) (c := 12) (vs := [.inl x1, .inl (1 : Int32)]) (st := [.inr (.inr x0), .inl v17, .inr (.inr x0)]) (rO := fun z => some (.inl z)) (mO := fun _ => M16) zk_X12_ofCall zi_X12_ofCall q1566 rfl ⟨by decide, by decide⟩ ⟨rfl, rfl⟩ rfl rfl (Nat.le_of_ble_eq_true rfl) (by decide +kernel) (fun z hz => c_X12_ofCall hz) (fun v18 => ?_)
    change Sim l G Y_X12_called lim _ _ 125 [some (.inr (.inr x0)), some (.inl x1), some (.inl v1), none] [.inl v18, .inr (.inr x0), .inl v17, .inr (.inr x0)] M16
    refine s_run (b := [(.aload_n 0, 1)]) 126 [some (.inr (.inr x0)), some (.inl x1), some (.inl v1), none] [.inr (.inr x0), .inl v18, .inr (.inr x0), .inl v17, .inr (.inr x0)] (by decide +kernel) rfl ?_
    refine s_gI fl_12_198 rfl (by decide +kernel) (fun v19 => ?_)
    refine s_cV (Z := Y_X12_gotBy) (c := 12) (vs := [.inl v18, .inl v19]) (st := [.inl v17, .inr (.inr x0)]) (rO := fun z => some (.inl z)) (mO := fun _ => M16) zk_X12_gotBy zi_X12_gotBy q1629 rfl ⟨by decide, by decide⟩ ⟨rfl, rfl⟩ rfl rfl (Nat.le_of_ble_eq_true rfl) (by decide +kernel) (fun z hz => c_X12_gotBy hz) (fun v20 => ?_)
    change Sim l G Y_X12_called lim _ _ 132 [some (.inr (.inr x0)), some (.inl x1), some (.inl v1), none] [.inl v20, .inl v17, .inr (.inr x0)] M16
    refine s_run (b := [(.iadd, 1)]) 133 [some (.inr (.inr x0)), some (.inl x1), some (.inl v1), none] [.inl (v17 + v20), .inr (.inr x0)] (by decide +kernel) rfl ?_
    refine s_pI fl_12_229 (Or.inl rfl) rfl (by decide +kernel) (fun M21 => ?_)
    refine s_run (b := [(.aload_n 0, 1), (.dup, 1)]) 138 [some (.inr (.inr x0)), some (.inl x1), some (.inl v1), none] [.inr (.inr x0), .inr (.inr x0)] (by decide +kernel) rfl ?_
    refine s_gI fl_12_235 rfl (by decide +kernel) (fun v22 => ?_)
    refine s_run (b := [(.aload_n 0, 1)]) 142 [some (.inr (.inr x0)), some (.inl x1), some (.inl v1), none] [.inr (.inr x0), .inl v22, .inr (.inr x0)] (by decide +kernel) rfl ?_
    refine s_gI fl_12_201 rfl (by decide +kernel) (fun v23 => ?_)
    refine s_if_eq (tgt := 152) (off := 7) (by decide +kernel) (by decide) (fun h24 => ?_) (fun h24 => ?_)
    · skip
      refine s_run (b := [(.iconst 0, 1)]) 153 [some (.inr (.inr x0)), some (.inl x1), some (.inl v1), none] [.inl (0 : Int32), .inl v22, .inr (.inr x0)] (by decide +kernel) rfl ?_
      exact s_lsub (ls' := [some (.inr (.inr x0)), none, some (.inl v1), none]) ⟨rfl, ⟨rfl, trivial⟩⟩ (J_X12_called_153 M21 x0 v1 x0 v22 (0 : Int32))
    · skip
      refine s_run (b := [(.iconst 1, 1), (.goto 4, 3)]) 153 [some (.inr (.inr x0)), some (.inl x1), some (.inl v1), none] [.inl (1 : Int32), .inl v22, .inr (.inr x0)] (by decide +kernel) rfl ?_
      exact s_lsub (ls' := [some (.inr (.inr x0)), none, some (.inl v1), none]) ⟨rfl, ⟨rfl, trivial⟩⟩ (J_X12_called_153 M21 x0 v1 x0 v22 (1 : Int32))
set_option maxRecDepth 20000 in
theorem c_X12_called {l : Launch} {G : Gv} {M : Mem} {x0 : Nat} {x1 : Int32} {z : Mem} (h : f_X12_called M x0 x1 = some z) : MetS l G Y_X12_called [.inr (.inr x0), .inl x1] M none z :=
  met_of (ls0 := [some (.inr (.inr x0)), some (.inl x1), none, none]) (by decide) rfl (lv_in (m := 2) rfl) (sl_le (Nat.le_of_ble_eq_true rfl)) (by rw [h]; rfl) (Or.inl ⟨rfl, rfl⟩) (S_X12_called M x0 x1)
def f_X12_isIn (M : Mem) (x0 : Int32) (x1 : Int32) (x2 : Int32) : Option (Int32) :=
  (if x0 < x1 then
    some (0 : Int32)
  else
    (if x2 < x0 then
      some (0 : Int32)
    else
      some (1 : Int32)))
set_option maxRecDepth 20000 in
theorem S_X12_isIn {l : Launch} {G : Gv} {lim : Nat × Nat} (M : Mem) (x0 : Int32) (x1 : Int32) (x2 : Int32) : Sim l G Y_X12_isIn lim (f_X12_isIn M x0 x1 x2) (fun z => some (some (.int z), M)) 0 [some (.inl x0), some (.inl x1), some (.inl x2)] [] M := by
  unfold f_X12_isIn
  refine s_run (b := [(.iload_n 0, 1), (.iload_n 1, 1)]) 2 [some (.inl x0), some (.inl x1), some (.inl x2)] [.inl x1, .inl x0] (by decide +kernel) rfl ?_
  refine s_ic_lt (tgt := 14) (off := 12) (by decide +kernel) (by decide) (fun h1 => ?_) (fun h1 => ?_)
  · skip
    refine s_run (b := [(.iconst 0, 1)]) 15 [some (.inl x0), some (.inl x1), some (.inl x2)] [.inl (0 : Int32)] (by decide +kernel) rfl ?_
    exact s_bret (Or.inl rfl) (by decide +kernel) rfl
  · skip
    refine s_run (b := [(.iload_n 0, 1), (.iload_n 2, 1)]) 7 [some (.inl x0), some (.inl x1), some (.inl x2)] [.inl x2, .inl x0] (by decide +kernel) rfl ?_
    refine s_ic_gt (tgt := 14) (off := 7) (by decide +kernel) (by decide) (fun h2 => ?_) (fun h2 => ?_)
    · skip
      refine s_run (b := [(.iconst 0, 1)]) 15 [some (.inl x0), some (.inl x1), some (.inl x2)] [.inl (0 : Int32)] (by decide +kernel) rfl ?_
      exact s_bret (Or.inl rfl) (by decide +kernel) rfl
    · skip
      refine s_run (b := [(.iconst 1, 1), (.goto 4, 3)]) 15 [some (.inl x0), some (.inl x1), some (.inl x2)] [.inl (1 : Int32)] (by decide +kernel) rfl ?_
      exact s_bret (Or.inr rfl) (by decide +kernel) rfl
set_option maxRecDepth 20000 in
theorem c_X12_isIn {l : Launch} {G : Gv} {M : Mem} {x0 : Int32} {x1 : Int32} {x2 : Int32} {z : Int32} (h : f_X12_isIn M x0 x1 x2 = some z) : MetS l G Y_X12_isIn [.inl x0, .inl x1, .inl x2] M (some (.int z)) M :=
  met_of (ls0 := [some (.inl x0), some (.inl x1), some (.inl x2)]) (by decide) rfl (lv_in (m := 0) rfl) (sl_le (Nat.le_of_ble_eq_true rfl)) (by rw [h]; rfl) (Or.inl ⟨rfl, rfl⟩) (S_X12_isIn M x0 x1 x2)
def f_X12_isCall (M : Mem) (x0 : Nat) (x1 : Int32) : Option (Int32) :=
  (gI M 12 x0 13).bind fun v1 =>
  (f_X12_isIn M x1 (0 : Int32) (v1 - (1 : Int32))).bind fun v2 =>
  (zr v2).bind fun w3 => some w3
set_option maxRecDepth 20000 in
theorem S_X12_isCall {l : Launch} {G : Gv} {lim : Nat × Nat} (M : Mem) (x0 : Nat) (x1 : Int32) : Sim l G Y_X12_isCall lim (f_X12_isCall M x0 x1) (fun z => some (some (.int z), M)) 0 [some (.inr (.inr x0)), some (.inl x1)] [] M := by
  unfold f_X12_isCall
  refine s_run (b := [(.iload_n 1, 1), (.iconst 0, 1), (.aload_n 0, 1)]) 3 [some (.inr (.inr x0)), some (.inl x1)] [.inr (.inr x0), .inl (0 : Int32), .inl x1] (by decide +kernel) rfl ?_
  refine s_gI fl_12_165 rfl (by decide +kernel) (fun v1 => ?_)
  refine s_run (b := [(.iconst 1, 1), (.isub, 1)]) 8 [some (.inr (.inr x0)), some (.inl x1)] [.inl (v1 - (1 : Int32)), .inl (0 : Int32), .inl x1] (by decide +kernel) rfl ?_
  refine s_cS (Z := Y_X12_isIn) (vs := [.inl x1, .inl (0 : Int32), .inl (v1 - (1 : Int32))]) (st := []) (rO := fun z => some (.inl z)) (mO := fun _ => M) zk_X12_isIn q1464 q1463 ⟨by decide, by decide⟩ ⟨rfl, rfl⟩ rfl rfl (Nat.le_of_ble_eq_true rfl) (by decide +kernel) (fun z hz => c_X12_isIn hz) (fun v2 => ?_)
  change Sim l G Y_X12_isCall lim _ _ 11 [some (.inr (.inr x0)), some (.inl x1)] [.inl v2] M
  exact s_zr (fun h4 => s_bret h4 (by decide +kernel) rfl)
set_option maxRecDepth 20000 in
theorem c_X12_isCall {l : Launch} {G : Gv} {M : Mem} {x0 : Nat} {x1 : Int32} {z : Int32} (h : f_X12_isCall M x0 x1 = some z) : MetS l G Y_X12_isCall [.inr (.inr x0), .inl x1] M (some (.int z)) M :=
  met_of (ls0 := [some (.inr (.inr x0)), some (.inl x1)]) (by decide) rfl (lv_in (m := 0) rfl) (sl_le (Nat.le_of_ble_eq_true rfl)) (by rw [h]; rfl) (Or.inl ⟨rfl, rfl⟩) (S_X12_isCall M x0 x1)
def f_X12_isDesk (M : Mem) (x0 : Nat) (x1 : Int32) : Option (Int32) :=
  (gI M 12 x0 12).bind fun v1 =>
  (f_X12_isIn M x1 (0 : Int32) (v1 - (1 : Int32))).bind fun v2 =>
  (zr v2).bind fun w3 => some w3
set_option maxRecDepth 20000 in
theorem S_X12_isDesk {l : Launch} {G : Gv} {lim : Nat × Nat} (M : Mem) (x0 : Nat) (x1 : Int32) : Sim l G Y_X12_isDesk lim (f_X12_isDesk M x0 x1) (fun z => some (some (.int z), M)) 0 [some (.inr (.inr x0)), some (.inl x1)] [] M := by
  unfold f_X12_isDesk
  refine s_run (b := [(.iload_n 1, 1), (.iconst 0, 1), (.aload_n 0, 1)]) 3 [some (.inr (.inr x0)), some (.inl x1)] [.inr (.inr x0), .inl (0 : Int32), .inl x1] (by decide +kernel) rfl ?_
  refine s_gI fl_12_162 rfl (by decide +kernel) (fun v1 => ?_)
  refine s_run (b := [(.iconst 1, 1), (.isub, 1)]) 8 [some (.inr (.inr x0)), some (.inl x1)] [.inl (v1 - (1 : Int32)), .inl (0 : Int32), .inl x1] (by decide +kernel) rfl ?_
  refine s_cS (Z := Y_X12_isIn) (vs := [.inl x1, .inl (0 : Int32), .inl (v1 - (1 : Int32))]) (st := []) (rO := fun z => some (.inl z)) (mO := fun _ => M) zk_X12_isIn q1464 q1463 ⟨by decide, by decide⟩ ⟨rfl, rfl⟩ rfl rfl (Nat.le_of_ble_eq_true rfl) (by decide +kernel) (fun z hz => c_X12_isIn hz) (fun v2 => ?_)
  change Sim l G Y_X12_isDesk lim _ _ 11 [some (.inr (.inr x0)), some (.inl x1)] [.inl v2] M
  exact s_zr (fun h4 => s_bret h4 (by decide +kernel) rfl)
set_option maxRecDepth 20000 in
theorem c_X12_isDesk {l : Launch} {G : Gv} {M : Mem} {x0 : Nat} {x1 : Int32} {z : Int32} (h : f_X12_isDesk M x0 x1 = some z) : MetS l G Y_X12_isDesk [.inr (.inr x0), .inl x1] M (some (.int z)) M :=
  met_of (ls0 := [some (.inr (.inr x0)), some (.inl x1)]) (by decide) rfl (lv_in (m := 0) rfl) (sl_le (Nat.le_of_ble_eq_true rfl)) (by rw [h]; rfl) (Or.inl ⟨rfl, rfl⟩) (S_X12_isDesk M x0 x1)
def f_X12_does_J58 (M : Mem) (x0 : Nat) (x1 : Int32) (x2 : Int32) (y0 : Int32) (y1 : Int32) : Option (Int32 × Mem) :=
  (if y0 = y1 then
    (if x1 = (3 : Int32) then
      (gR M 12 x0 28).bind fun v3 =>
      (aI M 0 v3 x2).bind fun v4 =>
      (if v4 = 0 then
        some ((0 : Int32), M)
      else
        (gR M 12 x0 29).bind fun v6 =>
        (aI M 0 v6 x2).bind fun v7 =>
        (gR M 12 x0 28).bind fun v8 =>
        (aI M 0 v8 x2).bind fun v9 =>
        (sI M 0 v6 x2 (v7 + v9)).bind fun M10 =>
        (gR M10 12 x0 28).bind fun v11 =>
        (sI M10 0 v11 x2 (0 : Int32)).bind fun M12 =>
        some ((1 : Int32), M12))
    else
      (gI M 12 x0 20).bind fun v13 =>
      (pI M 12 x0 20 (v13 ^^^ ((1 : Int32) <<< (x2 &&& 31)))).bind fun M14 =>
      some ((1 : Int32), M14))
  else
    some ((0 : Int32), M))
set_option maxRecDepth 20000 in
theorem J_X12_does_58 {l : Launch} {G : Gv} {lim : Nat × Nat} (M : Mem) (x0 : Nat) (x1 : Int32) (x2 : Int32) (y0 : Int32) (y1 : Int32)  : Sim l G Y_X12_does lim (f_X12_does_J58 M x0 x1 x2 y0 y1) (fun z => some (some (.int z.1), z.2)) 58 [some (.inr (.inr x0)), some (.inl x1), some (.inl x2)] [.inl y1, .inl y0] M := by
  unfold f_X12_does_J58
  refine s_ic_eq (tgt := 63) (off := 5) (by decide +kernel) (by decide) (fun h1 => ?_) (fun h1 => ?_)
  · skip
    refine s_run (b := [(.iload_n 1, 1), (.iconst 3, 1)]) 65 [some (.inr (.inr x0)), some (.inl x1), some (.inl x2)] [.inl (3 : Int32), .inl x1] (by decide +kernel) rfl ?_
    refine s_ic_ne (tgt := 103) (off := 38) (by decide +kernel) (by decide) (fun h2 => ?_) (fun h2 => ?_)
    · skip
      refine s_run (b := [(.aload_n 0, 1)]) 69 [some (.inr (.inr x0)), some (.inl x1), some (.inl x2)] [.inr (.inr x0)] (by decide +kernel) rfl ?_
      refine s_gR fl_12_26 rfl (by decide +kernel) (fun v3 => ?_)
      refine s_run (b := [(.iload_n 2, 1)]) 73 [some (.inr (.inr x0)), some (.inl x1), some (.inl x2)] [.inl x2, .inr (.inr v3)] (by decide +kernel) rfl ?_
      refine s_ia (by decide +kernel) (fun v4 => ?_)
      refine s_if_ne (tgt := 79) (off := 5) (by decide +kernel) (by decide) (fun h5 => ?_) (fun h5 => ?_)
      · skip
        refine s_run (b := [(.iconst 0, 1)]) 78 [some (.inr (.inr x0)), some (.inl x1), some (.inl x2)] [.inl (0 : Int32)] (by decide +kernel) rfl ?_
        exact s_bret (Or.inl rfl) (by decide +kernel) rfl
      · skip
        refine s_run (b := [(.aload_n 0, 1)]) 80 [some (.inr (.inr x0)), some (.inl x1), some (.inl x2)] [.inr (.inr x0)] (by decide +kernel) rfl ?_
        refine s_gR fl_12_29 rfl (by decide +kernel) (fun v6 => ?_)
        refine s_run (b := [(.iload_n 2, 1), (.dup2, 1)]) 85 [some (.inr (.inr x0)), some (.inl x1), some (.inl x2)] [.inl x2, .inr (.inr v6), .inl x2, .inr (.inr v6)] (by decide +kernel) rfl ?_
        refine s_ia (by decide +kernel) (fun v7 => ?_)
        refine s_run (b := [(.aload_n 0, 1)]) 87 [some (.inr (.inr x0)), some (.inl x1), some (.inl x2)] [.inr (.inr x0), .inl v7, .inl x2, .inr (.inr v6)] (by decide +kernel) rfl ?_
        refine s_gR fl_12_26 rfl (by decide +kernel) (fun v8 => ?_)
        refine s_run (b := [(.iload_n 2, 1)]) 91 [some (.inr (.inr x0)), some (.inl x1), some (.inl x2)] [.inl x2, .inr (.inr v8), .inl v7, .inl x2, .inr (.inr v6)] (by decide +kernel) rfl ?_
        refine s_ia (by decide +kernel) (fun v9 => ?_)
        refine s_run (b := [(.iadd, 1)]) 93 [some (.inr (.inr x0)), some (.inl x1), some (.inl x2)] [.inl (v7 + v9), .inl x2, .inr (.inr v6)] (by decide +kernel) rfl ?_
        refine s_is (by decide +kernel) (fun M10 => ?_)
        refine s_run (b := [(.aload_n 0, 1)]) 95 [some (.inr (.inr x0)), some (.inl x1), some (.inl x2)] [.inr (.inr x0)] (by decide +kernel) rfl ?_
        refine s_gR fl_12_26 rfl (by decide +kernel) (fun v11 => ?_)
        refine s_run (b := [(.iload_n 2, 1), (.iconst 0, 1)]) 100 [some (.inr (.inr x0)), some (.inl x1), some (.inl x2)] [.inl (0 : Int32), .inl x2, .inr (.inr v11)] (by decide +kernel) rfl ?_
        refine s_is (by decide +kernel) (fun M12 => ?_)
        refine s_run (b := [(.iconst 1, 1)]) 102 [some (.inr (.inr x0)), some (.inl x1), some (.inl x2)] [.inl (1 : Int32)] (by decide +kernel) rfl ?_
        exact s_bret (Or.inr rfl) (by decide +kernel) rfl
    · skip
      refine s_run (b := [(.aload_n 0, 1), (.dup, 1)]) 105 [some (.inr (.inr x0)), some (.inl x1), some (.inl x2)] [.inr (.inr x0), .inr (.inr x0)] (by decide +kernel) rfl ?_
      refine s_gI fl_12_217 rfl (by decide +kernel) (fun v13 => ?_)
      refine s_run (b := [(.iconst 1, 1), (.iload_n 2, 1), (.ishl, 1), (.ixor, 1)]) 112 [some (.inr (.inr x0)), some (.inl x1), some (.inl x2)] [.inl (v13 ^^^ ((1 : Int32) <<< (x2 &&& 31))), .inr (.inr x0)] (by decide +kernel) rfl ?_
      refine s_pI fl_12_217 (Or.inl rfl) rfl (by decide +kernel) (fun M14 => ?_)
      refine s_run (b := [(.iconst 1, 1)]) 116 [some (.inr (.inr x0)), some (.inl x1), some (.inl x2)] [.inl (1 : Int32)] (by decide +kernel) rfl ?_
      exact s_bret (Or.inr rfl) (by decide +kernel) rfl
  · skip
    refine s_run (b := [(.iconst 0, 1)]) 62 [some (.inr (.inr x0)), some (.inl x1), some (.inl x2)] [.inl (0 : Int32)] (by decide +kernel) rfl ?_
    exact s_bret (Or.inl rfl) (by decide +kernel) rfl
def f_X12_does (M : Mem) (x0 : Nat) (x1 : Int32) (x2 : Int32) : Option (Int32 × Mem) :=
  (if x1 = 0 then
    (ob M 12 x0).bind fun _ => (f_X12_isCall M x0 x2).bind fun v2 =>
    (if v2 = 0 then
      some ((0 : Int32), M)
    else
      (gI M 12 x0 21).bind fun v4 =>
      (f_X12_holds M v4 x2).bind fun v5 =>
      (if v5 = 0 then
        (ob M 12 x0).bind fun _ => (f_X12_called M x0 x2).bind fun z7 =>
        some ((1 : Int32), z7)
      else
        some ((0 : Int32), M)))
  else
    (ob M 12 x0).bind fun _ => (f_X12_isDesk M x0 x2).bind fun v8 =>
    (if v8 = 0 then
      some ((0 : Int32), M)
    else
      (gI M 12 x0 20).bind fun v10 =>
      (f_X12_holds M v10 x2).bind fun v11 =>
      (if x1 = (2 : Int32) then
        f_X12_does_J58 M x0 x1 x2 v11 (0 : Int32)
      else
        f_X12_does_J58 M x0 x1 x2 v11 (1 : Int32))))
set_option maxRecDepth 20000 in
theorem S_X12_does {l : Launch} {G : Gv} {lim : Nat × Nat} (M : Mem) (x0 : Nat) (x1 : Int32) (x2 : Int32) : Sim l G Y_X12_does lim (f_X12_does M x0 x1 x2) (fun z => some (some (.int z.1), z.2)) 0 [some (.inr (.inr x0)), some (.inl x1), some (.inl x2)] [] M := by
  unfold f_X12_does
  refine s_run (b := [(.iload_n 1, 1)]) 1 [some (.inr (.inr x0)), some (.inl x1), some (.inl x2)] [.inl x1] (by decide +kernel) rfl ?_
  refine s_if_ne (tgt := 32) (off := 31) (by decide +kernel) (by decide) (fun h1 => ?_) (fun h1 => ?_)
  · skip
    refine s_run (b := [(.aload_n 0, 1), (.iload_n 2, 1)]) 6 [some (.inr (.inr x0)), some (.inl x1), some (.inl x2)] [.inl x2, .inr (.inr x0)] (by decide +kernel) rfl ?_
    refine s_cV (Z := Y_X12_isCall) (c := 12) (vs := [.inl x2]) (st := []) (rO := fun z => some (.inl z)) (mO := fun _ => M) zk_X12_isCall zi_X12_isCall q1562 rfl ⟨by decide, by decide⟩ ⟨rfl, rfl⟩ rfl rfl (Nat.le_of_ble_eq_true rfl) (by decide +kernel) (fun z hz => c_X12_isCall hz) (fun v2 => ?_)
    change Sim l G Y_X12_does lim _ _ 9 [some (.inr (.inr x0)), some (.inl x1), some (.inl x2)] [.inl v2] M
    refine s_if_eq (tgt := 23) (off := 14) (by decide +kernel) (by decide) (fun h3 => ?_) (fun h3 => ?_)
    · skip
      refine s_run (b := [(.iconst 0, 1)]) 24 [some (.inr (.inr x0)), some (.inl x1), some (.inl x2)] [.inl (0 : Int32)] (by decide +kernel) rfl ?_
      exact s_bret (Or.inl rfl) (by decide +kernel) rfl
    · skip
      refine s_run (b := [(.aload_n 0, 1)]) 13 [some (.inr (.inr x0)), some (.inl x1), some (.inl x2)] [.inr (.inr x0)] (by decide +kernel) rfl ?_
      refine s_gI fl_12_220 rfl (by decide +kernel) (fun v4 => ?_)
      refine s_run (b := [(.iload_n 2, 1)]) 17 [some (.inr (.inr x0)), some (.inl x1), some (.inl x2)] [.inl x2, .inl v4] (by decide +kernel) rfl ?_
      refine s_cS (Z := Y_X12_holds) (vs := [.inl v4, .inl x2]) (st := []) (rO := fun z => some (.inl z)) (mO := fun _ => M) zk_X12_holds q1599 q1598 ⟨by decide, by decide⟩ ⟨rfl, rfl⟩ rfl rfl (Nat.le_of_ble_eq_true rfl) (by decide +kernel) (fun z hz => c_X12_holds hz) (fun v5 => ?_)
      change Sim l G Y_X12_does lim _ _ 20 [some (.inr (.inr x0)), some (.inl x1), some (.inl x2)] [.inl v5] M
      refine s_if_eq (tgt := 25) (off := 5) (by decide +kernel) (by decide) (fun h6 => ?_) (fun h6 => ?_)
      · skip
        refine s_run (b := [(.aload_n 0, 1), (.iload_n 2, 1)]) 27 [some (.inr (.inr x0)), some (.inl x1), some (.inl x2)] [.inl x2, .inr (.inr x0)] (by decide +kernel) rfl ?_
        refine s_cV (Z := Y_X12_called) (c := 12) (vs := [.inl x2]) (st := []) (rO := fun _ => none) (mO := fun z => z) zk_X12_called zi_X12_called q1601 rfl ⟨by decide, by decide⟩ ⟨rfl, rfl⟩ rfl rfl (Nat.le_of_ble_eq_true rfl) (by decide +kernel) (fun z hz => c_X12_called hz) (fun z7 => ?_)
        change Sim l G Y_X12_does lim _ _ 30 [some (.inr (.inr x0)), some (.inl x1), some (.inl x2)] [] z7
        refine s_run (b := [(.iconst 1, 1)]) 31 [some (.inr (.inr x0)), some (.inl x1), some (.inl x2)] [.inl (1 : Int32)] (by decide +kernel) rfl ?_
        exact s_bret (Or.inr rfl) (by decide +kernel) rfl
      · skip
        refine s_run (b := [(.iconst 0, 1)]) 24 [some (.inr (.inr x0)), some (.inl x1), some (.inl x2)] [.inl (0 : Int32)] (by decide +kernel) rfl ?_
        exact s_bret (Or.inl rfl) (by decide +kernel) rfl
  · skip
    refine s_run (b := [(.aload_n 0, 1), (.iload_n 2, 1)]) 34 [some (.inr (.inr x0)), some (.inl x1), some (.inl x2)] [.inl x2, .inr (.inr x0)] (by decide +kernel) rfl ?_
    refine s_cV (Z := Y_X12_isDesk) (c := 12) (vs := [.inl x2]) (st := []) (rO := fun z => some (.inl z)) (mO := fun _ => M) zk_X12_isDesk zi_X12_isDesk q1554 rfl ⟨by decide, by decide⟩ ⟨rfl, rfl⟩ rfl rfl (Nat.le_of_ble_eq_true rfl) (by decide +kernel) (fun z hz => c_X12_isDesk hz) (fun v8 => ?_)
    change Sim l G Y_X12_does lim _ _ 37 [some (.inr (.inr x0)), some (.inl x1), some (.inl x2)] [.inl v8] M
    refine s_if_eq (tgt := 61) (off := 24) (by decide +kernel) (by decide) (fun h9 => ?_) (fun h9 => ?_)
    · skip
      refine s_run (b := [(.iconst 0, 1)]) 62 [some (.inr (.inr x0)), some (.inl x1), some (.inl x2)] [.inl (0 : Int32)] (by decide +kernel) rfl ?_
      exact s_bret (Or.inl rfl) (by decide +kernel) rfl
    · skip
      refine s_run (b := [(.aload_n 0, 1)]) 41 [some (.inr (.inr x0)), some (.inl x1), some (.inl x2)] [.inr (.inr x0)] (by decide +kernel) rfl ?_
      refine s_gI fl_12_217 rfl (by decide +kernel) (fun v10 => ?_)
      refine s_run (b := [(.iload_n 2, 1)]) 45 [some (.inr (.inr x0)), some (.inl x1), some (.inl x2)] [.inl x2, .inl v10] (by decide +kernel) rfl ?_
      refine s_cS (Z := Y_X12_holds) (vs := [.inl v10, .inl x2]) (st := []) (rO := fun z => some (.inl z)) (mO := fun _ => M) zk_X12_holds q1599 q1598 ⟨by decide, by decide⟩ ⟨rfl, rfl⟩ rfl rfl (Nat.le_of_ble_eq_true rfl) (by decide +kernel) (fun z hz => c_X12_holds hz) (fun v11 => ?_)
      change Sim l G Y_X12_does lim _ _ 48 [some (.inr (.inr x0)), some (.inl x1), some (.inl x2)] [.inl v11] M
      refine s_run (b := [(.iload_n 1, 1), (.iconst 2, 1)]) 50 [some (.inr (.inr x0)), some (.inl x1), some (.inl x2)] [.inl (2 : Int32), .inl x1, .inl v11] (by decide +kernel) rfl ?_
      refine s_ic_eq (tgt := 57) (off := 7) (by decide +kernel) (by decide) (fun h12 => ?_) (fun h12 => ?_)
      · skip
        refine s_run (b := [(.iconst 0, 1)]) 58 [some (.inr (.inr x0)), some (.inl x1), some (.inl x2)] [.inl (0 : Int32), .inl v11] (by decide +kernel) rfl ?_
        exact s_lsub (ls' := [some (.inr (.inr x0)), some (.inl x1), some (.inl x2)]) ⟨rfl, ⟨rfl, ⟨rfl, trivial⟩⟩⟩ (J_X12_does_58 M x0 x1 x2 v11 (0 : Int32))
      · skip
        refine s_run (b := [(.iconst 1, 1), (.goto 4, 3)]) 58 [some (.inr (.inr x0)), some (.inl x1), some (.inl x2)] [.inl (1 : Int32), .inl v11] (by decide +kernel) rfl ?_
        exact s_lsub (ls' := [some (.inr (.inr x0)), some (.inl x1), some (.inl x2)]) ⟨rfl, ⟨rfl, ⟨rfl, trivial⟩⟩⟩ (J_X12_does_58 M x0 x1 x2 v11 (1 : Int32))
set_option maxRecDepth 20000 in
theorem c_X12_does {l : Launch} {G : Gv} {M : Mem} {x0 : Nat} {x1 : Int32} {x2 : Int32} {z : Int32 × Mem} (h : f_X12_does M x0 x1 x2 = some z) : MetS l G Y_X12_does [.inr (.inr x0), .inl x1, .inl x2] M (some (.int z.1)) z.2 :=
  met_of (ls0 := [some (.inr (.inr x0)), some (.inl x1), some (.inl x2)]) (by decide) rfl (lv_in (m := 0) rfl) (sl_le (Nat.le_of_ble_eq_true rfl)) (by rw [h]; rfl) (Or.inl ⟨rfl, rfl⟩) (S_X12_does M x0 x1 x2)
def f_X12_runs_B4 (M : Mem) (x0 : Nat) (x1 : Int32)  : Option ((Mem) ⊕ ((Mem))) :=
  (gI M 12 x0 27).bind fun v1 =>
  (if x1 ≤ v1 then
    some (.inr M)
  else
    (gI M 12 x0 27).bind fun v3 =>
    (gR M 12 x0 0).bind fun v4 =>
    (gI M 12 x0 19).bind fun v5 =>
    (aI M 0 v4 v5).bind fun v6 =>
    (if v6 ≤ v3 then
      some (.inr M)
    else
      (gR M 12 x0 0).bind fun v8 =>
      (gI M 12 x0 19).bind fun v9 =>
      (gI M 12 x0 27).bind fun v10 =>
      (aI M 0 v8 ((v9 + (1 : Int32)) + ((2 : Int32) * v10))).bind fun v11 =>
      (gR M 12 x0 0).bind fun v12 =>
      (gI M 12 x0 19).bind fun v13 =>
      (gI M 12 x0 27).bind fun v14 =>
      (aI M 0 v12 ((v13 + (2 : Int32)) + ((2 : Int32) * v14))).bind fun v15 =>
      (ob M 12 x0).bind fun _ => (f_X12_does M x0 v11 v15).bind fun z16 =>
      (if z16.1 = 0 then
        some (.inr z16.2)
      else
        (gI z16.2 12 x0 27).bind fun v18 =>
        (pI z16.2 12 x0 27 (v18 + (1 : Int32))).bind fun M19 =>
        some (.inl M19))))
def f_X12_runs_L4 (M : Mem) (x0 : Nat) (x1 : Int32)  : Option ((Mem)) := iter (fun s : Mem => f_X12_runs_B4 s x0 x1 ) 1048576 M
set_option maxRecDepth 20000 in
theorem B_X12_runs_4 {l : Launch} {G : Gv} {lim : Nat × Nat} (M : Mem) (x0 : Nat) (x1 : Int32)  (K : (Mem) ⊕ ((Mem)) → Option (Option Value × Mem)) (kk1 : ∀ (s_ : Mem), SimR l G Y_X12_runs lim (K (.inl s_)) 4 [some (.inr (.inr x0)), some (.inl x1)] [] s_) (kk2_0 : ∀ (s_ : Mem), SimR l G Y_X12_runs lim (K (.inr s_)) 84 [none, none] [] s_) : Sim l G Y_X12_runs lim (f_X12_runs_B4 M x0 x1 ) K 4 [some (.inr (.inr x0)), some (.inl x1)] [] M := by
  unfold f_X12_runs_B4
  refine s_run (b := [(.aload_n 0, 1)]) 5 [some (.inr (.inr x0)), some (.inl x1)] [.inr (.inr x0)] (by decide +kernel) rfl ?_
  refine s_gI fl_12_238 rfl (by decide +kernel) (fun v1 => ?_)
  refine s_run (b := [(.iload_n 1, 1)]) 9 [some (.inr (.inr x0)), some (.inl x1)] [.inl x1, .inl v1] (by decide +kernel) rfl ?_
  refine s_ic_ge (tgt := 84) (off := 75) (by decide +kernel) (by decide) (fun h2 => ?_) (fun h2 => ?_)
  · skip
    exact s_lsub (ls' := [none, none]) trivial (kk2_0 M)
  · skip
    refine s_run (b := [(.aload_n 0, 1)]) 13 [some (.inr (.inr x0)), some (.inl x1)] [.inr (.inr x0)] (by decide +kernel) rfl ?_
    refine s_gI fl_12_238 rfl (by decide +kernel) (fun v3 => ?_)
    refine s_run (b := [(.aload_n 0, 1)]) 17 [some (.inr (.inr x0)), some (.inl x1)] [.inr (.inr x0), .inl v3] (by decide +kernel) rfl ?_
    refine s_gR fl_12_7 rfl (by decide +kernel) (fun v4 => ?_)
    refine s_run (b := [(.aload_n 0, 1)]) 21 [some (.inr (.inr x0)), some (.inl x1)] [.inr (.inr x0), .inr (.inr v4), .inl v3] (by decide +kernel) rfl ?_
    refine s_gI fl_12_208 rfl (by decide +kernel) (fun v5 => ?_)
    refine s_ia (by decide +kernel) (fun v6 => ?_)
    refine s_ic_ge (tgt := 84) (off := 59) (by decide +kernel) (by decide) (fun h7 => ?_) (fun h7 => ?_)
    · skip
      exact s_lsub (ls' := [none, none]) trivial (kk2_0 M)
    · skip
      refine s_run (b := [(.aload_n 0, 1), (.aload_n 0, 1)]) 30 [some (.inr (.inr x0)), some (.inl x1)] [.inr (.inr x0), .inr (.inr x0)] (by decide +kernel) rfl ?_
      refine s_gR fl_12_7 rfl (by decide +kernel) (fun v8 => ?_)
      refine s_run (b := [(.aload_n 0, 1)]) 34 [some (.inr (.inr x0)), some (.inl x1)] [.inr (.inr x0), .inr (.inr v8), .inr (.inr x0)] (by decide +kernel) rfl ?_
      refine s_gI fl_12_208 rfl (by decide +kernel) (fun v9 => ?_)
      refine s_run (b := [(.iconst 1, 1), (.iadd, 1), (.iconst 2, 1), (.aload_n 0, 1)]) 41 [some (.inr (.inr x0)), some (.inl x1)] [.inr (.inr x0), .inl (2 : Int32), .inl (v9 + (1 : Int32)), .inr (.inr v8), .inr (.inr x0)] (by decide +kernel) rfl ?_
      refine s_gI fl_12_238 rfl (by decide +kernel) (fun v10 => ?_)
      refine s_run (b := [(.imul, 1), (.iadd, 1)]) 46 [some (.inr (.inr x0)), some (.inl x1)] [.inl ((v9 + (1 : Int32)) + ((2 : Int32) * v10)), .inr (.inr v8), .inr (.inr x0)] (by decide +kernel) rfl ?_
      refine s_ia (by decide +kernel) (fun v11 => ?_)
      refine s_run (b := [(.aload_n 0, 1)]) 48 [some (.inr (.inr x0)), some (.inl x1)] [.inr (.inr x0), .inl v11, .inr (.inr x0)] (by decide +kernel) rfl ?_
      refine s_gR fl_12_7 rfl (by decide +kernel) (fun v12 => ?_)
      refine s_run (b := [(.aload_n 0, 1)]) 52 [some (.inr (.inr x0)), some (.inl x1)] [.inr (.inr x0), .inr (.inr v12), .inl v11, .inr (.inr x0)] (by decide +kernel) rfl ?_
      refine s_gI fl_12_208 rfl (by decide +kernel) (fun v13 => ?_)
      refine s_run (b := [(.iconst 2, 1), (.iadd, 1), (.iconst 2, 1), (.aload_n 0, 1)]) 59 [some (.inr (.inr x0)), some (.inl x1)] [.inr (.inr x0), .inl (2 : Int32), .inl (v13 + (2 : Int32)), .inr (.inr v12), .inl v11, .inr (.inr x0)] (by decide +kernel) rfl ?_
      refine s_gI fl_12_238 rfl (by decide +kernel) (fun v14 => ?_)
      refine s_run (b := [(.imul, 1), (.iadd, 1)]) 64 [some (.inr (.inr x0)), some (.inl x1)] [.inl ((v13 + (2 : Int32)) + ((2 : Int32) * v14)), .inr (.inr v12), .inl v11, .inr (.inr x0)] (by decide +kernel) rfl ?_
      refine s_ia (by decide +kernel) (fun v15 => ?_)
      refine s_cV (Z := Y_X12_does) (c := 12) (vs := [.inl v11, .inl v15]) (st := []) (rO := fun z => some (.inl z.1)) (mO := fun z => z.2) zk_X12_does zi_X12_does q1594 rfl ⟨by decide, by decide⟩ ⟨rfl, rfl⟩ rfl rfl (Nat.le_of_ble_eq_true rfl) (by decide +kernel) (fun z hz => c_X12_does hz) (fun z16 => ?_)
      change Sim l G Y_X12_runs lim _ _ 68 [some (.inr (.inr x0)), some (.inl x1)] [.inl z16.1] z16.2
      refine s_if_eq (tgt := 84) (off := 16) (by decide +kernel) (by decide) (fun h17 => ?_) (fun h17 => ?_)
      · skip
        exact s_lsub (ls' := [none, none]) trivial (kk2_0 z16.2)
      · skip
        refine s_run (b := [(.aload_n 0, 1), (.dup, 1)]) 73 [some (.inr (.inr x0)), some (.inl x1)] [.inr (.inr x0), .inr (.inr x0)] (by decide +kernel) rfl ?_
        refine s_gI fl_12_238 rfl (by decide +kernel) (fun v18 => ?_)
        refine s_run (b := [(.iconst 1, 1), (.iadd, 1)]) 78 [some (.inr (.inr x0)), some (.inl x1)] [.inl (v18 + (1 : Int32)), .inr (.inr x0)] (by decide +kernel) rfl ?_
        refine s_pI fl_12_238 (Or.inl rfl) rfl (by decide +kernel) (fun M19 => ?_)
        refine s_run (b := [(.goto (-77), 3)]) 4 [some (.inr (.inr x0)), some (.inl x1)] [] (by decide +kernel) rfl ?_
        exact s_lsub (ls' := [some (.inr (.inr x0)), some (.inl x1)]) ⟨rfl, ⟨rfl, trivial⟩⟩ (kk1 M19)
set_option maxRecDepth 20000 in
theorem L_X12_runs_4 {l : Launch} {G : Gv} {lim : Nat × Nat} (M : Mem) (x0 : Nat) (x1 : Int32)  (K : ((Mem)) → Option (Option Value × Mem)) (kk2_0 : ∀ r : Mem, SimR l G Y_X12_runs lim (K r) 84 [none, none] [] r) : Sim l G Y_X12_runs lim (f_X12_runs_L4 M x0 x1 ) K 4 [some (.inr (.inr x0)), some (.inl x1)] [] M :=
  s_iter (f := fun s : Mem => f_X12_runs_B4 s x0 x1 ) (hd := 4) (cl := fun s => [some (.inr (.inr x0)), some (.inl x1)]) (cm := fun s => s) (xp := fun _ => 84) (xl := fun r => [none, none]) (xm := fun r => r) (fun s K h1 h2 => B_X12_runs_4 s x0 x1  K (fun a_ => h1 a_) (fun a_ => h2 a_)) 1048576 M K kk2_0
def f_X12_runs (M : Mem) (x0 : Nat) (x1 : Int32) : Option (Mem) :=
  (ob M 12 x0).bind fun _ => (f_X12_begins M x0).bind fun z1 =>
  (f_X12_runs_L4 z1 x0 x1 ).bind fun r2 =>
  some r2
set_option maxRecDepth 20000 in
theorem S_X12_runs {l : Launch} {G : Gv} {lim : Nat × Nat} (M : Mem) (x0 : Nat) (x1 : Int32) : Sim l G Y_X12_runs lim (f_X12_runs M x0 x1) (fun z => some (none, z)) 0 [some (.inr (.inr x0)), some (.inl x1)] [] M := by
  unfold f_X12_runs
  refine s_run (b := [(.aload_n 0, 1)]) 1 [some (.inr (.inr x0)), some (.inl x1)] [.inr (.inr x0)] (by decide +kernel) rfl ?_
  refine s_cV (Z := Y_X12_begins) (c := 12) (vs := []) (st := []) (rO := fun _ => none) (mO := fun z => z) zk_X12_begins zi_X12_begins q1586 rfl ⟨by decide, by decide⟩ ⟨rfl, rfl⟩ rfl rfl (Nat.le_of_ble_eq_true rfl) (by decide +kernel) (fun z hz => c_X12_begins hz) (fun z1 => ?_)
  change Sim l G Y_X12_runs lim _ _ 4 [some (.inr (.inr x0)), some (.inl x1)] [] z1
  refine s_lsub (ls' := [some (.inr (.inr x0)), some (.inl x1)]) ⟨rfl, ⟨rfl, trivial⟩⟩ ?_
  refine sim_bind (L_X12_runs_4 z1 x0 x1  _ (fun r2 => ?_))
  change Sim l G Y_X12_runs lim _ _ 84 [none, none] [] r2
  exact s_vret (by decide +kernel) rfl
set_option maxRecDepth 20000 in
theorem c_X12_runs {l : Launch} {G : Gv} {M : Mem} {x0 : Nat} {x1 : Int32} {z : Mem} (h : f_X12_runs M x0 x1 = some z) : MetS l G Y_X12_runs [.inr (.inr x0), .inl x1] M none z :=
  met_of (ls0 := [some (.inr (.inr x0)), some (.inl x1)]) (by decide) rfl (lv_in (m := 0) rfl) (sl_le (Nat.le_of_ble_eq_true rfl)) (by rw [h]; rfl) (Or.inl ⟨rfl, rfl⟩) (S_X12_runs M x0 x1)
def f_X12_halfOf_B18 (M : Mem) (x0 : Nat) (x1 : Int32) (x2 : Int32) : Option ((Int32 × Mem) ⊕ ((Int32 × Mem))) :=
  (gI M 12 x0 24).bind fun v1 =>
  (if x1 ≤ ((2 : Int32) * v1) then
    some (.inr (x2, M))
  else
    (ob M 12 x0).bind fun _ => (f_X12_runs M x0 (x2 + (1 : Int32))).bind fun z3 =>
    some (.inl ((x2 + (1 : Int32)), z3)))
def f_X12_halfOf_L18 (M : Mem) (x0 : Nat) (x1 : Int32) (x2 : Int32) : Option ((Int32 × Mem)) := iter (fun s : Int32 × Mem => f_X12_halfOf_B18 s.2 x0 x1 s.1) 1048576 (x2, M)
set_option maxRecDepth 20000 in
theorem B_X12_halfOf_18 {l : Launch} {G : Gv} {lim : Nat × Nat} (M : Mem) (x0 : Nat) (x1 : Int32) (x2 : Int32) (K : (Int32 × Mem) ⊕ ((Int32 × Mem)) → Option (Option Value × Mem)) (kk1 : ∀ (s2 : Int32) (s_ : Mem), SimR l G Y_X12_halfOf lim (K (.inl (s2, s_))) 18 [some (.inr (.inr x0)), some (.inl x1), some (.inl s2)] [] s_) (kk2_0 : ∀ (s2 : Int32) (s_ : Mem), SimR l G Y_X12_halfOf lim (K (.inr (s2, s_))) 39 [none, none, some (.inl s2)] [] s_) : Sim l G Y_X12_halfOf lim (f_X12_halfOf_B18 M x0 x1 x2) K 18 [some (.inr (.inr x0)), some (.inl x1), some (.inl x2)] [] M := by
  unfold f_X12_halfOf_B18
  refine s_run (b := [(.iconst 2, 1), (.aload_n 0, 1)]) 20 [some (.inr (.inr x0)), some (.inl x1), some (.inl x2)] [.inr (.inr x0), .inl (2 : Int32)] (by decide +kernel) rfl ?_
  refine s_gI fl_12_229 rfl (by decide +kernel) (fun v1 => ?_)
  refine s_run (b := [(.imul, 1), (.iload_n 1, 1)]) 25 [some (.inr (.inr x0)), some (.inl x1), some (.inl x2)] [.inl x1, .inl ((2 : Int32) * v1)] (by decide +kernel) rfl ?_
  refine s_ic_ge (tgt := 39) (off := 14) (by decide +kernel) (by decide) (fun h2 => ?_) (fun h2 => ?_)
  · skip
    exact s_lsub (ls' := [none, none, some (.inl x2)]) ⟨rfl, trivial⟩ (kk2_0 x2 M)
  · skip
    refine s_run (b := [(.iinc 2 1, 3), (.aload_n 0, 1), (.iload_n 2, 1)]) 33 [some (.inr (.inr x0)), some (.inl x1), some (.inl (x2 + (1 : Int32)))] [.inl (x2 + (1 : Int32)), .inr (.inr x0)] (by decide +kernel) rfl ?_
    refine s_cV (Z := Y_X12_runs) (c := 12) (vs := [.inl (x2 + (1 : Int32))]) (st := []) (rO := fun _ => none) (mO := fun z => z) zk_X12_runs zi_X12_runs q1582 rfl ⟨by decide, by decide⟩ ⟨rfl, rfl⟩ rfl rfl (Nat.le_of_ble_eq_true rfl) (by decide +kernel) (fun z hz => c_X12_runs hz) (fun z3 => ?_)
    change Sim l G Y_X12_halfOf lim _ _ 36 [some (.inr (.inr x0)), some (.inl x1), some (.inl (x2 + (1 : Int32)))] [] z3
    refine s_run (b := [(.goto (-18), 3)]) 18 [some (.inr (.inr x0)), some (.inl x1), some (.inl (x2 + (1 : Int32)))] [] (by decide +kernel) rfl ?_
    exact s_lsub (ls' := [some (.inr (.inr x0)), some (.inl x1), some (.inl (x2 + (1 : Int32)))]) ⟨rfl, ⟨rfl, ⟨rfl, trivial⟩⟩⟩ (kk1 (x2 + (1 : Int32)) z3)
set_option maxRecDepth 20000 in
theorem L_X12_halfOf_18 {l : Launch} {G : Gv} {lim : Nat × Nat} (M : Mem) (x0 : Nat) (x1 : Int32) (x2 : Int32) (K : ((Int32 × Mem)) → Option (Option Value × Mem)) (kk2_0 : ∀ r : Int32 × Mem, SimR l G Y_X12_halfOf lim (K r) 39 [none, none, some (.inl r.1)] [] r.2) : Sim l G Y_X12_halfOf lim (f_X12_halfOf_L18 M x0 x1 x2) K 18 [some (.inr (.inr x0)), some (.inl x1), some (.inl x2)] [] M :=
  s_iter (f := fun s : Int32 × Mem => f_X12_halfOf_B18 s.2 x0 x1 s.1) (hd := 18) (cl := fun s => [some (.inr (.inr x0)), some (.inl x1), some (.inl s.1)]) (cm := fun s => s.2) (xp := fun _ => 39) (xl := fun r => [none, none, some (.inl r.1)]) (xm := fun r => r.2) (fun s K h1 h2 => B_X12_halfOf_18 s.2 x0 x1 s.1 K (fun a2 a_ => h1 (a2, a_)) (fun a2 a_ => h2 (a2, a_))) 1048576 (x2, M) K kk2_0
def f_X12_halfOf (M : Mem) (x0 : Nat) : Option (Int32 × Mem) :=
  (ob M 12 x0).bind fun _ => (f_X12_runs M x0 (40 : Int32)).bind fun z1 =>
  (gI z1 12 x0 24).bind fun v2 =>
  (ob z1 12 x0).bind fun _ => (f_X12_runs z1 x0 (0 : Int32)).bind fun z3 =>
  (f_X12_halfOf_L18 z3 x0 v2 (0 : Int32)).bind fun r4 =>
  some (r4.1, r4.2)
set_option maxRecDepth 20000 in
theorem S_X12_halfOf {l : Launch} {G : Gv} {lim : Nat × Nat} (M : Mem) (x0 : Nat) : Sim l G Y_X12_halfOf lim (f_X12_halfOf M x0) (fun z => some (some (.int z.1), z.2)) 0 [some (.inr (.inr x0)), none, none] [] M := by
  unfold f_X12_halfOf
  refine s_run (b := [(.aload_n 0, 1), (.bipush 40, 2)]) 3 [some (.inr (.inr x0)), none, none] [.inl (40 : Int32), .inr (.inr x0)] (by decide +kernel) rfl ?_
  refine s_cV (Z := Y_X12_runs) (c := 12) (vs := [.inl (40 : Int32)]) (st := []) (rO := fun _ => none) (mO := fun z => z) zk_X12_runs zi_X12_runs q1582 rfl ⟨by decide, by decide⟩ ⟨rfl, rfl⟩ rfl rfl (Nat.le_of_ble_eq_true rfl) (by decide +kernel) (fun z hz => c_X12_runs hz) (fun z1 => ?_)
  change Sim l G Y_X12_halfOf lim _ _ 6 [some (.inr (.inr x0)), none, none] [] z1
  refine s_run (b := [(.aload_n 0, 1)]) 7 [some (.inr (.inr x0)), none, none] [.inr (.inr x0)] (by decide +kernel) rfl ?_
  refine s_gI fl_12_229 rfl (by decide +kernel) (fun v2 => ?_)
  refine s_run (b := [(.istore_n 1, 1), (.iconst 0, 1), (.istore_n 2, 1), (.aload_n 0, 1), (.iconst 0, 1)]) 15 [some (.inr (.inr x0)), some (.inl v2), some (.inl (0 : Int32))] [.inl (0 : Int32), .inr (.inr x0)] (by decide +kernel) rfl ?_
  refine s_cV (Z := Y_X12_runs) (c := 12) (vs := [.inl (0 : Int32)]) (st := []) (rO := fun _ => none) (mO := fun z => z) zk_X12_runs zi_X12_runs q1582 rfl ⟨by decide, by decide⟩ ⟨rfl, rfl⟩ rfl rfl (Nat.le_of_ble_eq_true rfl) (by decide +kernel) (fun z hz => c_X12_runs hz) (fun z3 => ?_)
  change Sim l G Y_X12_halfOf lim _ _ 18 [some (.inr (.inr x0)), some (.inl v2), some (.inl (0 : Int32))] [] z3
  refine s_lsub (ls' := [some (.inr (.inr x0)), some (.inl v2), some (.inl (0 : Int32))]) ⟨rfl, ⟨rfl, ⟨rfl, trivial⟩⟩⟩ ?_
  refine sim_bind (L_X12_halfOf_18 z3 x0 v2 (0 : Int32) _ (fun r4 => ?_))
  change Sim l G Y_X12_halfOf lim _ _ 39 [none, none, some (.inl r4.1)] [] r4.2
  refine s_run (b := [(.iload_n 2, 1)]) 40 [none, none, some (.inl r4.1)] [.inl r4.1] (by decide +kernel) rfl ?_
  exact s_iret (by decide +kernel) rfl
set_option maxRecDepth 20000 in
theorem c_X12_halfOf {l : Launch} {G : Gv} {M : Mem} {x0 : Nat} {z : Int32 × Mem} (h : f_X12_halfOf M x0 = some z) : MetS l G Y_X12_halfOf [.inr (.inr x0)] M (some (.int z.1)) z.2 :=
  met_of (ls0 := [some (.inr (.inr x0)), none, none]) (by decide) rfl (lv_in (m := 2) rfl) (sl_le (Nat.le_of_ble_eq_true rfl)) (by rw [h]; rfl) (Or.inl ⟨rfl, rfl⟩) (S_X12_halfOf M x0)
def f_X12_isOf (M : Mem) (x0 : Nat) (x1 : Int32) (x2 : Int32) : Option (Int32) :=
  (gR M 12 x0 0).bind fun v1 =>
  (aI M 0 v1 x1).bind fun v2 =>
  (f_X12_isIn M x2 (0 : Int32) (v2 - (1 : Int32))).bind fun v3 =>
  (zr v3).bind fun w4 => some w4
set_option maxRecDepth 20000 in
theorem S_X12_isOf {l : Launch} {G : Gv} {lim : Nat × Nat} (M : Mem) (x0 : Nat) (x1 : Int32) (x2 : Int32) : Sim l G Y_X12_isOf lim (f_X12_isOf M x0 x1 x2) (fun z => some (some (.int z), M)) 0 [some (.inr (.inr x0)), some (.inl x1), some (.inl x2)] [] M := by
  unfold f_X12_isOf
  refine s_run (b := [(.iload_n 2, 1), (.iconst 0, 1), (.aload_n 0, 1)]) 3 [some (.inr (.inr x0)), some (.inl x1), some (.inl x2)] [.inr (.inr x0), .inl (0 : Int32), .inl x2] (by decide +kernel) rfl ?_
  refine s_gR fl_12_7 rfl (by decide +kernel) (fun v1 => ?_)
  refine s_run (b := [(.iload_n 1, 1)]) 7 [some (.inr (.inr x0)), some (.inl x1), some (.inl x2)] [.inl x1, .inr (.inr v1), .inl (0 : Int32), .inl x2] (by decide +kernel) rfl ?_
  refine s_ia (by decide +kernel) (fun v2 => ?_)
  refine s_run (b := [(.iconst 1, 1), (.isub, 1)]) 10 [some (.inr (.inr x0)), some (.inl x1), some (.inl x2)] [.inl (v2 - (1 : Int32)), .inl (0 : Int32), .inl x2] (by decide +kernel) rfl ?_
  refine s_cS (Z := Y_X12_isIn) (vs := [.inl x2, .inl (0 : Int32), .inl (v2 - (1 : Int32))]) (st := []) (rO := fun z => some (.inl z)) (mO := fun _ => M) zk_X12_isIn q1464 q1463 ⟨by decide, by decide⟩ ⟨rfl, rfl⟩ rfl rfl (Nat.le_of_ble_eq_true rfl) (by decide +kernel) (fun z hz => c_X12_isIn hz) (fun v3 => ?_)
  change Sim l G Y_X12_isOf lim _ _ 13 [some (.inr (.inr x0)), some (.inl x1), some (.inl x2)] [.inl v3] M
  exact s_zr (fun h5 => s_bret h5 (by decide +kernel) rfl)
set_option maxRecDepth 20000 in
theorem c_X12_isOf {l : Launch} {G : Gv} {M : Mem} {x0 : Nat} {x1 : Int32} {x2 : Int32} {z : Int32} (h : f_X12_isOf M x0 x1 x2 = some z) : MetS l G Y_X12_isOf [.inr (.inr x0), .inl x1, .inl x2] M (some (.int z)) M :=
  met_of (ls0 := [some (.inr (.inr x0)), some (.inl x1), some (.inl x2)]) (by decide) rfl (lv_in (m := 0) rfl) (sl_le (Nat.le_of_ble_eq_true rfl)) (by rw [h]; rfl) (Or.inl ⟨rfl, rfl⟩) (S_X12_isOf M x0 x1 x2)
def f_X12_placeOf (M : Mem) (x0 : Int32) (x1 : Int32) : Option (Int32) :=
  (if x0 = 0 then
    some ((610 : Int32) + ((75 : Int32) * x1))
  else
    (if x0 = (1 : Int32) then
      some ((760 : Int32) + ((81 : Int32) * x1))
    else
      some ((922 : Int32) + ((33 : Int32) * x1))))
set_option maxRecDepth 20000 in
theorem S_X12_placeOf {l : Launch} {G : Gv} {lim : Nat × Nat} (M : Mem) (x0 : Int32) (x1 : Int32) : Sim l G Y_X12_placeOf lim (f_X12_placeOf M x0 x1) (fun z => some (some (.int z), M)) 0 [some (.inl x0), some (.inl x1)] [] M := by
  unfold f_X12_placeOf
  refine s_run (b := [(.iload_n 0, 1)]) 1 [some (.inl x0), some (.inl x1)] [.inl x0] (by decide +kernel) rfl ?_
  refine s_if_ne (tgt := 15) (off := 14) (by decide +kernel) (by decide) (fun h1 => ?_) (fun h1 => ?_)
  · skip
    refine s_run (b := [(.sipush 610, 3), (.bipush 75, 2), (.iload_n 1, 1), (.imul, 1), (.iadd, 1), (.goto 27, 3)]) 39 [some (.inl x0), some (.inl x1)] [.inl ((610 : Int32) + ((75 : Int32) * x1))] (by decide +kernel) rfl ?_
    exact s_iret (by decide +kernel) rfl
  · skip
    refine s_run (b := [(.iload_n 0, 1), (.iconst 1, 1)]) 17 [some (.inl x0), some (.inl x1)] [.inl (1 : Int32), .inl x0] (by decide +kernel) rfl ?_
    refine s_ic_ne (tgt := 31) (off := 14) (by decide +kernel) (by decide) (fun h2 => ?_) (fun h2 => ?_)
    · skip
      refine s_run (b := [(.sipush 760, 3), (.bipush 81, 2), (.iload_n 1, 1), (.imul, 1), (.iadd, 1), (.goto 11, 3)]) 39 [some (.inl x0), some (.inl x1)] [.inl ((760 : Int32) + ((81 : Int32) * x1))] (by decide +kernel) rfl ?_
      exact s_iret (by decide +kernel) rfl
    · skip
      refine s_run (b := [(.sipush 922, 3), (.bipush 33, 2), (.iload_n 1, 1), (.imul, 1), (.iadd, 1)]) 39 [some (.inl x0), some (.inl x1)] [.inl ((922 : Int32) + ((33 : Int32) * x1))] (by decide +kernel) rfl ?_
      exact s_iret (by decide +kernel) rfl
set_option maxRecDepth 20000 in
theorem c_X12_placeOf {l : Launch} {G : Gv} {M : Mem} {x0 : Int32} {x1 : Int32} {z : Int32} (h : f_X12_placeOf M x0 x1 = some z) : MetS l G Y_X12_placeOf [.inl x0, .inl x1] M (some (.int z)) M :=
  met_of (ls0 := [some (.inl x0), some (.inl x1)]) (by decide) rfl (lv_in (m := 0) rfl) (sl_le (Nat.le_of_ble_eq_true rfl)) (by rw [h]; rfl) (Or.inl ⟨rfl, rfl⟩) (S_X12_placeOf M x0 x1)
def f_X12_isDay (M : Mem) (x0 : Nat) (x1 : Int32) : Option (Int32 × Mem) :=
  (ob M 12 x0).bind fun _ => (f_X12_isOf M x0 (1 : Int32) x1).bind fun v1 =>
  (if v1 = 0 then
    some ((0 : Int32), M)
  else
    (f_X12_placeOf M (1 : Int32) x1).bind fun v3 =>
    (pI M 12 x0 19 v3).bind fun M4 =>
    some ((1 : Int32), M4))
set_option maxRecDepth 20000 in
theorem S_X12_isDay {l : Launch} {G : Gv} {lim : Nat × Nat} (M : Mem) (x0 : Nat) (x1 : Int32) : Sim l G Y_X12_isDay lim (f_X12_isDay M x0 x1) (fun z => some (some (.int z.1), z.2)) 0 [some (.inr (.inr x0)), some (.inl x1)] [] M := by
  unfold f_X12_isDay
  refine s_run (b := [(.aload_n 0, 1), (.iconst 1, 1), (.iload_n 1, 1)]) 3 [some (.inr (.inr x0)), some (.inl x1)] [.inl x1, .inl (1 : Int32), .inr (.inr x0)] (by decide +kernel) rfl ?_
  refine s_cV (Z := Y_X12_isOf) (c := 12) (vs := [.inl (1 : Int32), .inl x1]) (st := []) (rO := fun z => some (.inl z)) (mO := fun _ => M) zk_X12_isOf zi_X12_isOf q1466 rfl ⟨by decide, by decide⟩ ⟨rfl, rfl⟩ rfl rfl (Nat.le_of_ble_eq_true rfl) (by decide +kernel) (fun z hz => c_X12_isOf hz) (fun v1 => ?_)
  change Sim l G Y_X12_isDay lim _ _ 6 [some (.inr (.inr x0)), some (.inl x1)] [.inl v1] M
  refine s_if_ne (tgt := 11) (off := 5) (by decide +kernel) (by decide) (fun h2 => ?_) (fun h2 => ?_)
  · skip
    refine s_run (b := [(.iconst 0, 1)]) 10 [some (.inr (.inr x0)), some (.inl x1)] [.inl (0 : Int32)] (by decide +kernel) rfl ?_
    exact s_bret (Or.inl rfl) (by decide +kernel) rfl
  · skip
    refine s_run (b := [(.aload_n 0, 1), (.iconst 1, 1), (.iload_n 1, 1)]) 14 [some (.inr (.inr x0)), some (.inl x1)] [.inl x1, .inl (1 : Int32), .inr (.inr x0)] (by decide +kernel) rfl ?_
    refine s_cS (Z := Y_X12_placeOf) (vs := [.inl (1 : Int32), .inl x1]) (st := [.inr (.inr x0)]) (rO := fun z => some (.inl z)) (mO := fun _ => M) zk_X12_placeOf q1540 q1539 ⟨by decide, by decide⟩ ⟨rfl, rfl⟩ rfl rfl (Nat.le_of_ble_eq_true rfl) (by decide +kernel) (fun z hz => c_X12_placeOf hz) (fun v3 => ?_)
    change Sim l G Y_X12_isDay lim _ _ 17 [some (.inr (.inr x0)), some (.inl x1)] [.inl v3, .inr (.inr x0)] M
    refine s_pI fl_12_208 (Or.inl rfl) rfl (by decide +kernel) (fun M4 => ?_)
    refine s_run (b := [(.iconst 1, 1)]) 21 [some (.inr (.inr x0)), some (.inl x1)] [.inl (1 : Int32)] (by decide +kernel) rfl ?_
    exact s_bret (Or.inr rfl) (by decide +kernel) rfl
set_option maxRecDepth 20000 in
theorem c_X12_isDay {l : Launch} {G : Gv} {M : Mem} {x0 : Nat} {x1 : Int32} {z : Int32 × Mem} (h : f_X12_isDay M x0 x1 = some z) : MetS l G Y_X12_isDay [.inr (.inr x0), .inl x1] M (some (.int z.1)) z.2 :=
  met_of (ls0 := [some (.inr (.inr x0)), some (.inl x1)]) (by decide) rfl (lv_in (m := 0) rfl) (sl_le (Nat.le_of_ble_eq_true rfl)) (by rw [h]; rfl) (Or.inl ⟨rfl, rfl⟩) (S_X12_isDay M x0 x1)
def f_X12_isOffice (M : Mem) (x0 : Nat) (x1 : Int32) : Option (Int32 × Mem) :=
  (ob M 12 x0).bind fun _ => (f_X12_isOf M x0 (0 : Int32) x1).bind fun v1 =>
  (if v1 = 0 then
    some ((0 : Int32), M)
  else
    (f_X12_placeOf M (0 : Int32) x1).bind fun v3 =>
    (pI M 12 x0 11 v3).bind fun M4 =>
    (gR M4 12 x0 0).bind fun v5 =>
    (gI M4 12 x0 11).bind fun v6 =>
    (aI M4 0 v5 v6).bind fun v7 =>
    (pI M4 12 x0 12 v7).bind fun M8 =>
    (gR M8 12 x0 0).bind fun v9 =>
    (gI M8 12 x0 11).bind fun v10 =>
    (aI M8 0 v9 (v10 + (1 : Int32))).bind fun v11 =>
    (pI M8 12 x0 13 v11).bind fun M12 =>
    some ((1 : Int32), M12))
set_option maxRecDepth 20000 in
theorem S_X12_isOffice {l : Launch} {G : Gv} {lim : Nat × Nat} (M : Mem) (x0 : Nat) (x1 : Int32) : Sim l G Y_X12_isOffice lim (f_X12_isOffice M x0 x1) (fun z => some (some (.int z.1), z.2)) 0 [some (.inr (.inr x0)), some (.inl x1)] [] M := by
  unfold f_X12_isOffice
  refine s_run (b := [(.aload_n 0, 1), (.iconst 0, 1), (.iload_n 1, 1)]) 3 [some (.inr (.inr x0)), some (.inl x1)] [.inl x1, .inl (0 : Int32), .inr (.inr x0)] (by decide +kernel) rfl ?_
  refine s_cV (Z := Y_X12_isOf) (c := 12) (vs := [.inl (0 : Int32), .inl x1]) (st := []) (rO := fun z => some (.inl z)) (mO := fun _ => M) zk_X12_isOf zi_X12_isOf q1466 rfl ⟨by decide, by decide⟩ ⟨rfl, rfl⟩ rfl rfl (Nat.le_of_ble_eq_true rfl) (by decide +kernel) (fun z hz => c_X12_isOf hz) (fun v1 => ?_)
  change Sim l G Y_X12_isOffice lim _ _ 6 [some (.inr (.inr x0)), some (.inl x1)] [.inl v1] M
  refine s_if_ne (tgt := 11) (off := 5) (by decide +kernel) (by decide) (fun h2 => ?_) (fun h2 => ?_)
  · skip
    refine s_run (b := [(.iconst 0, 1)]) 10 [some (.inr (.inr x0)), some (.inl x1)] [.inl (0 : Int32)] (by decide +kernel) rfl ?_
    exact s_bret (Or.inl rfl) (by decide +kernel) rfl
  · skip
    refine s_run (b := [(.aload_n 0, 1), (.iconst 0, 1), (.iload_n 1, 1)]) 14 [some (.inr (.inr x0)), some (.inl x1)] [.inl x1, .inl (0 : Int32), .inr (.inr x0)] (by decide +kernel) rfl ?_
    refine s_cS (Z := Y_X12_placeOf) (vs := [.inl (0 : Int32), .inl x1]) (st := [.inr (.inr x0)]) (rO := fun z => some (.inl z)) (mO := fun _ => M) zk_X12_placeOf q1540 q1539 ⟨by decide, by decide⟩ ⟨rfl, rfl⟩ rfl rfl (Nat.le_of_ble_eq_true rfl) (by decide +kernel) (fun z hz => c_X12_placeOf hz) (fun v3 => ?_)
    change Sim l G Y_X12_isOffice lim _ _ 17 [some (.inr (.inr x0)), some (.inl x1)] [.inl v3, .inr (.inr x0)] M
    refine s_pI fl_12_159 (Or.inl rfl) rfl (by decide +kernel) (fun M4 => ?_)
    refine s_run (b := [(.aload_n 0, 1), (.aload_n 0, 1)]) 22 [some (.inr (.inr x0)), some (.inl x1)] [.inr (.inr x0), .inr (.inr x0)] (by decide +kernel) rfl ?_
    refine s_gR fl_12_7 rfl (by decide +kernel) (fun v5 => ?_)
    refine s_run (b := [(.aload_n 0, 1)]) 26 [some (.inr (.inr x0)), some (.inl x1)] [.inr (.inr x0), .inr (.inr v5), .inr (.inr x0)] (by decide +kernel) rfl ?_
    refine s_gI fl_12_159 rfl (by decide +kernel) (fun v6 => ?_)
    refine s_ia (by decide +kernel) (fun v7 => ?_)
    refine s_pI fl_12_162 (Or.inl rfl) rfl (by decide +kernel) (fun M8 => ?_)
    refine s_run (b := [(.aload_n 0, 1), (.aload_n 0, 1)]) 35 [some (.inr (.inr x0)), some (.inl x1)] [.inr (.inr x0), .inr (.inr x0)] (by decide +kernel) rfl ?_
    refine s_gR fl_12_7 rfl (by decide +kernel) (fun v9 => ?_)
    refine s_run (b := [(.aload_n 0, 1)]) 39 [some (.inr (.inr x0)), some (.inl x1)] [.inr (.inr x0), .inr (.inr v9), .inr (.inr x0)] (by decide +kernel) rfl ?_
    refine s_gI fl_12_159 rfl (by decide +kernel) (fun v10 => ?_)
    refine s_run (b := [(.iconst 1, 1), (.iadd, 1)]) 44 [some (.inr (.inr x0)), some (.inl x1)] [.inl (v10 + (1 : Int32)), .inr (.inr v9), .inr (.inr x0)] (by decide +kernel) rfl ?_
    refine s_ia (by decide +kernel) (fun v11 => ?_)
    refine s_pI fl_12_165 (Or.inl rfl) rfl (by decide +kernel) (fun M12 => ?_)
    refine s_run (b := [(.iconst 1, 1)]) 49 [some (.inr (.inr x0)), some (.inl x1)] [.inl (1 : Int32)] (by decide +kernel) rfl ?_
    exact s_bret (Or.inr rfl) (by decide +kernel) rfl
set_option maxRecDepth 20000 in
theorem c_X12_isOffice {l : Launch} {G : Gv} {M : Mem} {x0 : Nat} {x1 : Int32} {z : Int32 × Mem} (h : f_X12_isOffice M x0 x1 = some z) : MetS l G Y_X12_isOffice [.inr (.inr x0), .inl x1] M (some (.int z.1)) z.2 :=
  met_of (ls0 := [some (.inr (.inr x0)), some (.inl x1)]) (by decide) rfl (lv_in (m := 0) rfl) (sl_le (Nat.le_of_ble_eq_true rfl)) (by rw [h]; rfl) (Or.inl ⟨rfl, rfl⟩) (S_X12_isOffice M x0 x1)
def f_X12_mostHelped_B4 (M : Mem) (x0 : Nat) (x1 : Int32) (x2 : Int32) : Option ((Int32 × Int32) ⊕ ((Int32))) :=
  (gI M 12 x0 12).bind fun v1 =>
  (if v1 ≤ x2 then
    some (.inr x1)
  else
    (gR M 12 x0 14).bind fun v3 =>
    (aI M 0 v3 x2).bind fun v4 =>
    (gR M 12 x0 14).bind fun v5 =>
    (aI M 0 v5 x1).bind fun v6 =>
    (if v4 ≤ v6 then
      some (.inl (x1, (x2 + (1 : Int32))))
    else
      some (.inl (x2, (x2 + (1 : Int32))))))
def f_X12_mostHelped_L4 (M : Mem) (x0 : Nat) (x1 : Int32) (x2 : Int32) : Option ((Int32)) := iter (fun s : Int32 × Int32 => f_X12_mostHelped_B4 M x0 s.1 s.2) 1048576 (x1, x2)
set_option maxRecDepth 20000 in
theorem B_X12_mostHelped_4 {l : Launch} {G : Gv} {lim : Nat × Nat} (M : Mem) (x0 : Nat) (x1 : Int32) (x2 : Int32) (K : (Int32 × Int32) ⊕ ((Int32)) → Option (Option Value × Mem)) (kk1 : ∀ (s1 : Int32) (s2 : Int32), SimR l G Y_X12_mostHelped lim (K (.inl (s1, s2))) 4 [some (.inr (.inr x0)), some (.inl s1), some (.inl s2)] [] M) (kk2_0 : ∀ (s1 : Int32), SimR l G Y_X12_mostHelped lim (K (.inr s1)) 39 [none, some (.inl s1), none] [] M) : Sim l G Y_X12_mostHelped lim (f_X12_mostHelped_B4 M x0 x1 x2) K 4 [some (.inr (.inr x0)), some (.inl x1), some (.inl x2)] [] M := by
  unfold f_X12_mostHelped_B4
  refine s_run (b := [(.iload_n 2, 1), (.aload_n 0, 1)]) 6 [some (.inr (.inr x0)), some (.inl x1), some (.inl x2)] [.inr (.inr x0), .inl x2] (by decide +kernel) rfl ?_
  refine s_gI fl_12_162 rfl (by decide +kernel) (fun v1 => ?_)
  refine s_ic_ge (tgt := 39) (off := 30) (by decide +kernel) (by decide) (fun h2 => ?_) (fun h2 => ?_)
  · skip
    exact s_lsub (ls' := [none, some (.inl x1), none]) ⟨rfl, trivial⟩ (kk2_0 x1)
  · skip
    refine s_run (b := [(.aload_n 0, 1)]) 13 [some (.inr (.inr x0)), some (.inl x1), some (.inl x2)] [.inr (.inr x0)] (by decide +kernel) rfl ?_
    refine s_gR fl_12_20 rfl (by decide +kernel) (fun v3 => ?_)
    refine s_run (b := [(.iload_n 2, 1)]) 17 [some (.inr (.inr x0)), some (.inl x1), some (.inl x2)] [.inl x2, .inr (.inr v3)] (by decide +kernel) rfl ?_
    refine s_ia (by decide +kernel) (fun v4 => ?_)
    refine s_run (b := [(.aload_n 0, 1)]) 19 [some (.inr (.inr x0)), some (.inl x1), some (.inl x2)] [.inr (.inr x0), .inl v4] (by decide +kernel) rfl ?_
    refine s_gR fl_12_20 rfl (by decide +kernel) (fun v5 => ?_)
    refine s_run (b := [(.iload_n 1, 1)]) 23 [some (.inr (.inr x0)), some (.inl x1), some (.inl x2)] [.inl x1, .inr (.inr v5), .inl v4] (by decide +kernel) rfl ?_
    refine s_ia (by decide +kernel) (fun v6 => ?_)
    refine s_ic_le (tgt := 31) (off := 7) (by decide +kernel) (by decide) (fun h7 => ?_) (fun h7 => ?_)
    · skip
      refine s_run (b := [(.iload_n 1, 1), (.istore_n 1, 1), (.iinc 2 1, 3), (.goto (-32), 3)]) 4 [some (.inr (.inr x0)), some (.inl x1), some (.inl (x2 + (1 : Int32)))] [] (by decide +kernel) rfl ?_
      exact s_lsub (ls' := [some (.inr (.inr x0)), some (.inl x1), some (.inl (x2 + (1 : Int32)))]) ⟨rfl, ⟨rfl, ⟨rfl, trivial⟩⟩⟩ (kk1 x1 (x2 + (1 : Int32)))
    · skip
      refine s_run (b := [(.iload_n 2, 1), (.goto 4, 3), (.istore_n 1, 1), (.iinc 2 1, 3), (.goto (-32), 3)]) 4 [some (.inr (.inr x0)), some (.inl x2), some (.inl (x2 + (1 : Int32)))] [] (by decide +kernel) rfl ?_
      exact s_lsub (ls' := [some (.inr (.inr x0)), some (.inl x2), some (.inl (x2 + (1 : Int32)))]) ⟨rfl, ⟨rfl, ⟨rfl, trivial⟩⟩⟩ (kk1 x2 (x2 + (1 : Int32)))
set_option maxRecDepth 20000 in
theorem L_X12_mostHelped_4 {l : Launch} {G : Gv} {lim : Nat × Nat} (M : Mem) (x0 : Nat) (x1 : Int32) (x2 : Int32) (K : ((Int32)) → Option (Option Value × Mem)) (kk2_0 : ∀ r : Int32, SimR l G Y_X12_mostHelped lim (K r) 39 [none, some (.inl r), none] [] M) : Sim l G Y_X12_mostHelped lim (f_X12_mostHelped_L4 M x0 x1 x2) K 4 [some (.inr (.inr x0)), some (.inl x1), some (.inl x2)] [] M :=
  s_iter (f := fun s : Int32 × Int32 => f_X12_mostHelped_B4 M x0 s.1 s.2) (hd := 4) (cl := fun s => [some (.inr (.inr x0)), some (.inl s.1), some (.inl s.2)]) (cm := fun s => M) (xp := fun _ => 39) (xl := fun r => [none, some (.inl r), none]) (xm := fun r => M) (fun s K h1 h2 => B_X12_mostHelped_4 M x0 s.1 s.2 K (fun a1 a2 => h1 (a1, a2)) (fun a1 => h2 a1)) 1048576 (x1, x2) K kk2_0
def f_X12_mostHelped (M : Mem) (x0 : Nat) : Option (Int32) :=
  (f_X12_mostHelped_L4 M x0 (0 : Int32) (1 : Int32)).bind fun r1 =>
  some r1
set_option maxRecDepth 20000 in
theorem S_X12_mostHelped {l : Launch} {G : Gv} {lim : Nat × Nat} (M : Mem) (x0 : Nat) : Sim l G Y_X12_mostHelped lim (f_X12_mostHelped M x0) (fun z => some (some (.int z), M)) 0 [some (.inr (.inr x0)), none, none] [] M := by
  unfold f_X12_mostHelped
  refine s_run (b := [(.iconst 0, 1), (.istore_n 1, 1), (.iconst 1, 1), (.istore_n 2, 1)]) 4 [some (.inr (.inr x0)), some (.inl (0 : Int32)), some (.inl (1 : Int32))] [] (by decide +kernel) rfl ?_
  refine s_lsub (ls' := [some (.inr (.inr x0)), some (.inl (0 : Int32)), some (.inl (1 : Int32))]) ⟨rfl, ⟨rfl, ⟨rfl, trivial⟩⟩⟩ ?_
  refine sim_bind (L_X12_mostHelped_4 M x0 (0 : Int32) (1 : Int32) _ (fun r1 => ?_))
  change Sim l G Y_X12_mostHelped lim _ _ 39 [none, some (.inl r1), none] [] M
  refine s_run (b := [(.iload_n 1, 1)]) 40 [none, some (.inl r1), none] [.inl r1] (by decide +kernel) rfl ?_
  exact s_iret (by decide +kernel) rfl
set_option maxRecDepth 20000 in
theorem c_X12_mostHelped {l : Launch} {G : Gv} {M : Mem} {x0 : Nat} {z : Int32} (h : f_X12_mostHelped M x0 = some z) : MetS l G Y_X12_mostHelped [.inr (.inr x0)] M (some (.int z)) M :=
  met_of (ls0 := [some (.inr (.inr x0)), none, none]) (by decide) rfl (lv_in (m := 2) rfl) (sl_le (Nat.le_of_ble_eq_true rfl)) (by rw [h]; rfl) (Or.inl ⟨rfl, rfl⟩) (S_X12_mostHelped M x0)
def f_X12_after_B50 (M : Mem) (x0 : Nat) (x3 : Int32) (x4 : Int32) (x5 : Int32) : Option ((Int32 × Int32) ⊕ ((Int32))) :=
  (gI M 12 x0 12).bind fun v1 =>
  (if v1 ≤ x5 then
    some (.inr x4)
  else
    (gR M 12 x0 28).bind fun v3 =>
    (aI M 0 v3 x5).bind fun v4 =>
    (if v4 ≤ 0 then
      some (.inl ((x4 ||| (0 : Int32)), (x5 + (1 : Int32))))
    else
      some (.inl ((x4 ||| ((1 : Int32) <<< (x5 &&& 31))), (x5 + (1 : Int32))))))
def f_X12_after_L50 (M : Mem) (x0 : Nat) (x3 : Int32) (x4 : Int32) (x5 : Int32) : Option ((Int32)) := iter (fun s : Int32 × Int32 => f_X12_after_B50 M x0 x3 s.1 s.2) 1048576 (x4, x5)
set_option maxRecDepth 20000 in
theorem B_X12_after_50 {l : Launch} {G : Gv} {lim : Nat × Nat} (M : Mem) (x0 : Nat) (x3 : Int32) (x4 : Int32) (x5 : Int32) (K : (Int32 × Int32) ⊕ ((Int32)) → Option (Option Value × Mem)) (kk1 : ∀ (s4 : Int32) (s5 : Int32), SimR l G Y_X12_after lim (K (.inl (s4, s5))) 50 [some (.inr (.inr x0)), none, none, some (.inl x3), some (.inl s4), some (.inl s5)] [] M) (kk2_0 : ∀ (s4 : Int32), SimR l G Y_X12_after lim (K (.inr s4)) 88 [some (.inr (.inr x0)), none, none, some (.inl x3), some (.inl s4), none] [] M) : Sim l G Y_X12_after lim (f_X12_after_B50 M x0 x3 x4 x5) K 50 [some (.inr (.inr x0)), none, none, some (.inl x3), some (.inl x4), some (.inl x5)] [] M := by
  unfold f_X12_after_B50
  refine s_run (b := [(.iload 5, 2), (.aload_n 0, 1)]) 53 [some (.inr (.inr x0)), none, none, some (.inl x3), some (.inl x4), some (.inl x5)] [.inr (.inr x0), .inl x5] (by decide +kernel) rfl ?_
  refine s_gI fl_12_162 rfl (by decide +kernel) (fun v1 => ?_)
  refine s_ic_ge (tgt := 88) (off := 32) (by decide +kernel) (by decide) (fun h2 => ?_) (fun h2 => ?_)
  · skip
    exact s_lsub (ls' := [some (.inr (.inr x0)), none, none, some (.inl x3), some (.inl x4), none]) ⟨rfl, ⟨rfl, ⟨rfl, trivial⟩⟩⟩ (kk2_0 x4)
  · skip
    refine s_run (b := [(.iload 4, 2), (.aload_n 0, 1)]) 62 [some (.inr (.inr x0)), none, none, some (.inl x3), some (.inl x4), some (.inl x5)] [.inr (.inr x0), .inl x4] (by decide +kernel) rfl ?_
    refine s_gR fl_12_26 rfl (by decide +kernel) (fun v3 => ?_)
    refine s_run (b := [(.iload 5, 2)]) 67 [some (.inr (.inr x0)), none, none, some (.inl x3), some (.inl x4), some (.inl x5)] [.inl x5, .inr (.inr v3), .inl x4] (by decide +kernel) rfl ?_
    refine s_ia (by decide +kernel) (fun v4 => ?_)
    refine s_if_le (tgt := 78) (off := 10) (by decide +kernel) (by decide) (fun h5 => ?_) (fun h5 => ?_)
    · skip
      refine s_run (b := [(.iconst 0, 1), (.ior, 1), (.istore 4, 2), (.iinc 5 1, 3), (.goto (-35), 3)]) 50 [some (.inr (.inr x0)), none, none, some (.inl x3), some (.inl (x4 ||| (0 : Int32))), some (.inl (x5 + (1 : Int32)))] [] (by decide +kernel) rfl ?_
      exact s_lsub (ls' := [some (.inr (.inr x0)), none, none, some (.inl x3), some (.inl (x4 ||| (0 : Int32))), some (.inl (x5 + (1 : Int32)))]) ⟨rfl, ⟨rfl, ⟨rfl, ⟨rfl, trivial⟩⟩⟩⟩ (kk1 (x4 ||| (0 : Int32)) (x5 + (1 : Int32)))
    · skip
      refine s_run (b := [(.iconst 1, 1), (.iload 5, 2), (.ishl, 1), (.goto 4, 3), (.ior, 1), (.istore 4, 2), (.iinc 5 1, 3), (.goto (-35), 3)]) 50 [some (.inr (.inr x0)), none, none, some (.inl x3), some (.inl (x4 ||| ((1 : Int32) <<< (x5 &&& 31)))), some (.inl (x5 + (1 : Int32)))] [] (by decide +kernel) rfl ?_
      exact s_lsub (ls' := [some (.inr (.inr x0)), none, none, some (.inl x3), some (.inl (x4 ||| ((1 : Int32) <<< (x5 &&& 31)))), some (.inl (x5 + (1 : Int32)))]) ⟨rfl, ⟨rfl, ⟨rfl, ⟨rfl, trivial⟩⟩⟩⟩ (kk1 (x4 ||| ((1 : Int32) <<< (x5 &&& 31))) (x5 + (1 : Int32)))
set_option maxRecDepth 20000 in
theorem L_X12_after_50 {l : Launch} {G : Gv} {lim : Nat × Nat} (M : Mem) (x0 : Nat) (x3 : Int32) (x4 : Int32) (x5 : Int32) (K : ((Int32)) → Option (Option Value × Mem)) (kk2_0 : ∀ r : Int32, SimR l G Y_X12_after lim (K r) 88 [some (.inr (.inr x0)), none, none, some (.inl x3), some (.inl r), none] [] M) : Sim l G Y_X12_after lim (f_X12_after_L50 M x0 x3 x4 x5) K 50 [some (.inr (.inr x0)), none, none, some (.inl x3), some (.inl x4), some (.inl x5)] [] M :=
  s_iter (f := fun s : Int32 × Int32 => f_X12_after_B50 M x0 x3 s.1 s.2) (hd := 50) (cl := fun s => [some (.inr (.inr x0)), none, none, some (.inl x3), some (.inl s.1), some (.inl s.2)]) (cm := fun s => M) (xp := fun _ => 88) (xl := fun r => [some (.inr (.inr x0)), none, none, some (.inl x3), some (.inl r), none]) (xm := fun r => M) (fun s K h1 h2 => B_X12_after_50 M x0 x3 s.1 s.2 K (fun a4 a5 => h1 (a4, a5)) (fun a4 => h2 a4)) 1048576 (x4, x5) K kk2_0
def f_X12_after (M : Mem) (x0 : Nat) (x1 : Int32) (x2 : Int32) (x3 : Int32) : Option (Int32 × Mem) :=
  (ob M 12 x0).bind fun _ => (f_X12_isOffice M x0 x1).bind fun z1 =>
  (if z1.1 = 0 then
    some ((-2 : Int32), z1.2)
  else
    (ob z1.2 12 x0).bind fun _ => (f_X12_isDay z1.2 x0 x2).bind fun z3 =>
    (if z3.1 = 0 then
      some ((-2 : Int32), z3.2)
    else
      (f_X12_isIn z3.2 x3 (0 : Int32) (2 : Int32)).bind fun v5 =>
      (if v5 = 0 then
        some ((-2 : Int32), z3.2)
      else
        (if x3 = (1 : Int32) then
          (ob z3.2 12 x0).bind fun _ => (f_X12_halfOf z3.2 x0).bind fun z8 =>
          some (z8.1, z8.2)
        else
          (ob z3.2 12 x0).bind fun _ => (f_X12_runs z3.2 x0 (40 : Int32)).bind fun z9 =>
          (f_X12_after_L50 z9 x0 x3 (0 : Int32) (0 : Int32)).bind fun r10 =>
          (if x3 = (2 : Int32) then
            some (r10, z9)
          else
            (gR z9 12 x0 14).bind fun v12 =>
            (ob z9 12 x0).bind fun _ => (f_X12_mostHelped z9 x0).bind fun v13 =>
            (aI z9 0 v12 v13).bind fun v14 =>
            (if v14 = 0 then
              some ((-1 : Int32), z9)
            else
              (ob z9 12 x0).bind fun _ => (f_X12_mostHelped z9 x0).bind fun v16 =>
              some (v16, z9)))))))
set_option maxRecDepth 20000 in
theorem S_X12_after {l : Launch} {G : Gv} {lim : Nat × Nat} (M : Mem) (x0 : Nat) (x1 : Int32) (x2 : Int32) (x3 : Int32) : Sim l G Y_X12_after lim (f_X12_after M x0 x1 x2 x3) (fun z => some (some (.int z.1), z.2)) 0 [some (.inr (.inr x0)), some (.inl x1), some (.inl x2), some (.inl x3), none, none] [] M := by
  unfold f_X12_after
  refine s_run (b := [(.aload_n 0, 1), (.iload_n 1, 1)]) 2 [some (.inr (.inr x0)), some (.inl x1), some (.inl x2), some (.inl x3), none, none] [.inl x1, .inr (.inr x0)] (by decide +kernel) rfl ?_
  refine s_cV (Z := Y_X12_isOffice) (c := 12) (vs := [.inl x1]) (st := []) (rO := fun z => some (.inl z.1)) (mO := fun z => z.2) zk_X12_isOffice zi_X12_isOffice q1550 rfl ⟨by decide, by decide⟩ ⟨rfl, rfl⟩ rfl rfl (Nat.le_of_ble_eq_true rfl) (by decide +kernel) (fun z hz => c_X12_isOffice hz) (fun z1 => ?_)
  change Sim l G Y_X12_after lim _ _ 5 [some (.inr (.inr x0)), some (.inl x1), some (.inl x2), some (.inl x3), none, none] [.inl z1.1] z1.2
  refine s_if_eq (tgt := 25) (off := 20) (by decide +kernel) (by decide) (fun h2 => ?_) (fun h2 => ?_)
  · skip
    refine s_run (b := [(.bipush (-2), 2)]) 27 [some (.inr (.inr x0)), some (.inl x1), some (.inl x2), some (.inl x3), none, none] [.inl (-2 : Int32)] (by decide +kernel) rfl ?_
    exact s_iret (by decide +kernel) rfl
  · skip
    refine s_run (b := [(.aload_n 0, 1), (.iload_n 2, 1)]) 10 [some (.inr (.inr x0)), some (.inl x1), some (.inl x2), some (.inl x3), none, none] [.inl x2, .inr (.inr x0)] (by decide +kernel) rfl ?_
    refine s_cV (Z := Y_X12_isDay) (c := 12) (vs := [.inl x2]) (st := []) (rO := fun z => some (.inl z.1)) (mO := fun z => z.2) zk_X12_isDay zi_X12_isDay q1574 rfl ⟨by decide, by decide⟩ ⟨rfl, rfl⟩ rfl rfl (Nat.le_of_ble_eq_true rfl) (by decide +kernel) (fun z hz => c_X12_isDay hz) (fun z3 => ?_)
    change Sim l G Y_X12_after lim _ _ 13 [some (.inr (.inr x0)), some (.inl x1), some (.inl x2), some (.inl x3), none, none] [.inl z3.1] z3.2
    refine s_if_eq (tgt := 25) (off := 12) (by decide +kernel) (by decide) (fun h4 => ?_) (fun h4 => ?_)
    · skip
      refine s_run (b := [(.bipush (-2), 2)]) 27 [some (.inr (.inr x0)), some (.inl x1), some (.inl x2), some (.inl x3), none, none] [.inl (-2 : Int32)] (by decide +kernel) rfl ?_
      exact s_iret (by decide +kernel) rfl
    · skip
      refine s_run (b := [(.iload_n 3, 1), (.iconst 0, 1), (.iconst 2, 1)]) 19 [some (.inr (.inr x0)), some (.inl x1), some (.inl x2), some (.inl x3), none, none] [.inl (2 : Int32), .inl (0 : Int32), .inl x3] (by decide +kernel) rfl ?_
      refine s_cS (Z := Y_X12_isIn) (vs := [.inl x3, .inl (0 : Int32), .inl (2 : Int32)]) (st := []) (rO := fun z => some (.inl z)) (mO := fun _ => z3.2) zk_X12_isIn q1464 q1463 ⟨by decide, by decide⟩ ⟨rfl, rfl⟩ rfl rfl (Nat.le_of_ble_eq_true rfl) (by decide +kernel) (fun z hz => c_X12_isIn hz) (fun v5 => ?_)
      change Sim l G Y_X12_after lim _ _ 22 [some (.inr (.inr x0)), some (.inl x1), some (.inl x2), some (.inl x3), none, none] [.inl v5] z3.2
      refine s_if_ne (tgt := 28) (off := 6) (by decide +kernel) (by decide) (fun h6 => ?_) (fun h6 => ?_)
      · skip
        refine s_run (b := [(.bipush (-2), 2)]) 27 [some (.inr (.inr x0)), some (.inl x1), some (.inl x2), some (.inl x3), none, none] [.inl (-2 : Int32)] (by decide +kernel) rfl ?_
        exact s_iret (by decide +kernel) rfl
      · skip
        refine s_run (b := [(.iload_n 3, 1), (.iconst 1, 1)]) 30 [some (.inr (.inr x0)), some (.inl x1), some (.inl x2), some (.inl x3), none, none] [.inl (1 : Int32), .inl x3] (by decide +kernel) rfl ?_
        refine s_ic_ne (tgt := 38) (off := 8) (by decide +kernel) (by decide) (fun h7 => ?_) (fun h7 => ?_)
        · skip
          refine s_run (b := [(.aload_n 0, 1)]) 34 [some (.inr (.inr x0)), some (.inl x1), some (.inl x2), some (.inl x3), none, none] [.inr (.inr x0)] (by decide +kernel) rfl ?_
          refine s_cV (Z := Y_X12_halfOf) (c := 12) (vs := []) (st := []) (rO := fun z => some (.inl z.1)) (mO := fun z => z.2) zk_X12_halfOf zi_X12_halfOf q1874 rfl ⟨by decide, by decide⟩ ⟨rfl, rfl⟩ rfl rfl (Nat.le_of_ble_eq_true rfl) (by decide +kernel) (fun z hz => c_X12_halfOf hz) (fun z8 => ?_)
          change Sim l G Y_X12_after lim _ _ 37 [some (.inr (.inr x0)), some (.inl x1), some (.inl x2), some (.inl x3), none, none] [.inl z8.1] z8.2
          exact s_iret (by decide +kernel) rfl
        · skip
          refine s_run (b := [(.aload_n 0, 1), (.bipush 40, 2)]) 41 [some (.inr (.inr x0)), some (.inl x1), some (.inl x2), some (.inl x3), none, none] [.inl (40 : Int32), .inr (.inr x0)] (by decide +kernel) rfl ?_
          refine s_cV (Z := Y_X12_runs) (c := 12) (vs := [.inl (40 : Int32)]) (st := []) (rO := fun _ => none) (mO := fun z => z) zk_X12_runs zi_X12_runs q1582 rfl ⟨by decide, by decide⟩ ⟨rfl, rfl⟩ rfl rfl (Nat.le_of_ble_eq_true rfl) (by decide +kernel) (fun z hz => c_X12_runs hz) (fun z9 => ?_)
          change Sim l G Y_X12_after lim _ _ 44 [some (.inr (.inr x0)), some (.inl x1), some (.inl x2), some (.inl x3), none, none] [] z9
          refine s_run (b := [(.iconst 0, 1), (.istore 4, 2), (.iconst 0, 1), (.istore 5, 2)]) 50 [some (.inr (.inr x0)), some (.inl x1), some (.inl x2), some (.inl x3), some (.inl (0 : Int32)), some (.inl (0 : Int32))] [] (by decide +kernel) rfl ?_
          refine s_lsub (ls' := [some (.inr (.inr x0)), none, none, some (.inl x3), some (.inl (0 : Int32)), some (.inl (0 : Int32))]) ⟨rfl, ⟨rfl, ⟨rfl, ⟨rfl, trivial⟩⟩⟩⟩ ?_
          refine sim_bind (L_X12_after_50 z9 x0 x3 (0 : Int32) (0 : Int32) _ (fun r10 => ?_))
          change Sim l G Y_X12_after lim _ _ 88 [some (.inr (.inr x0)), none, none, some (.inl x3), some (.inl r10), none] [] z9
          refine s_run (b := [(.iload_n 3, 1), (.iconst 2, 1)]) 90 [some (.inr (.inr x0)), none, none, some (.inl x3), some (.inl r10), none] [.inl (2 : Int32), .inl x3] (by decide +kernel) rfl ?_
          refine s_ic_ne (tgt := 98) (off := 8) (by decide +kernel) (by decide) (fun h11 => ?_) (fun h11 => ?_)
          · skip
            refine s_run (b := [(.iload 4, 2), (.goto 23, 3)]) 118 [some (.inr (.inr x0)), none, none, some (.inl x3), some (.inl r10), none] [.inl r10] (by decide +kernel) rfl ?_
            exact s_iret (by decide +kernel) rfl
          · skip
            refine s_run (b := [(.aload_n 0, 1)]) 99 [some (.inr (.inr x0)), none, none, some (.inl x3), some (.inl r10), none] [.inr (.inr x0)] (by decide +kernel) rfl ?_
            refine s_gR fl_12_20 rfl (by decide +kernel) (fun v12 => ?_)
            refine s_run (b := [(.aload_n 0, 1)]) 103 [some (.inr (.inr x0)), none, none, some (.inl x3), some (.inl r10), none] [.inr (.inr x0), .inr (.inr v12)] (by decide +kernel) rfl ?_
            refine s_cV (Z := Y_X12_mostHelped) (c := 12) (vs := []) (st := [.inr (.inr v12)]) (rO := fun z => some (.inl z)) (mO := fun _ => z9) zk_X12_mostHelped zi_X12_mostHelped q1803 rfl ⟨by decide, by decide⟩ ⟨rfl, rfl⟩ rfl rfl (Nat.le_of_ble_eq_true rfl) (by decide +kernel) (fun z hz => c_X12_mostHelped hz) (fun v13 => ?_)
            change Sim l G Y_X12_after lim _ _ 106 [some (.inr (.inr x0)), none, none, some (.inl x3), some (.inl r10), none] [.inl v13, .inr (.inr v12)] z9
            refine s_ia (by decide +kernel) (fun v14 => ?_)
            refine s_if_ne (tgt := 114) (off := 7) (by decide +kernel) (by decide) (fun h15 => ?_) (fun h15 => ?_)
            · skip
              refine s_run (b := [(.iconst (-1), 1), (.goto 7, 3)]) 118 [some (.inr (.inr x0)), none, none, some (.inl x3), some (.inl r10), none] [.inl (-1 : Int32)] (by decide +kernel) rfl ?_
              exact s_iret (by decide +kernel) rfl
            · skip
              refine s_run (b := [(.aload_n 0, 1)]) 115 [some (.inr (.inr x0)), none, none, some (.inl x3), some (.inl r10), none] [.inr (.inr x0)] (by decide +kernel) rfl ?_
              refine s_cV (Z := Y_X12_mostHelped) (c := 12) (vs := []) (st := []) (rO := fun z => some (.inl z)) (mO := fun _ => z9) zk_X12_mostHelped zi_X12_mostHelped q1803 rfl ⟨by decide, by decide⟩ ⟨rfl, rfl⟩ rfl rfl (Nat.le_of_ble_eq_true rfl) (by decide +kernel) (fun z hz => c_X12_mostHelped hz) (fun v16 => ?_)
              change Sim l G Y_X12_after lim _ _ 118 [some (.inr (.inr x0)), none, none, some (.inl x3), some (.inl r10), none] [.inl v16] z9
              exact s_iret (by decide +kernel) rfl
set_option maxRecDepth 20000 in
theorem c_X12_after {l : Launch} {G : Gv} {M : Mem} {x0 : Nat} {x1 : Int32} {x2 : Int32} {x3 : Int32} {z : Int32 × Mem} (h : f_X12_after M x0 x1 x2 x3 = some z) : MetS l G Y_X12_after [.inr (.inr x0), .inl x1, .inl x2, .inl x3] M (some (.int z.1)) z.2 :=
  met_of (ls0 := [some (.inr (.inr x0)), some (.inl x1), some (.inl x2), some (.inl x3), none, none]) (by decide) rfl (lv_in (m := 2) rfl) (sl_le (Nat.le_of_ble_eq_true rfl)) (by rw [h]; rfl) (Or.inl ⟨rfl, rfl⟩) (S_X12_after M x0 x1 x2 x3)
def f_X12_again_B22 (M : Mem) (x0 : Nat) (x1 : Int32) (x2 : Int32) : Option ((Int32 × Mem) ⊕ ((Mem))) :=
  (if (988 : Int32) ≤ x2 then
    some (.inr M)
  else
    (gR M 12 x0 0).bind fun v2 =>
    (gR M 12 x0 0).bind fun v3 =>
    (aI M 0 v3 (((988 : Int32) * (x1 + (1 : Int32))) + x2)).bind fun v4 =>
    (sI M 0 v2 x2 v4).bind fun M5 =>
    some (.inl ((x2 + (1 : Int32)), M5)))
def f_X12_again_L22 (M : Mem) (x0 : Nat) (x1 : Int32) (x2 : Int32) : Option ((Mem)) := iter (fun s : Int32 × Mem => f_X12_again_B22 s.2 x0 x1 s.1) 1048576 (x2, M)
set_option maxRecDepth 20000 in
theorem B_X12_again_22 {l : Launch} {G : Gv} {lim : Nat × Nat} (M : Mem) (x0 : Nat) (x1 : Int32) (x2 : Int32) (K : (Int32 × Mem) ⊕ ((Mem)) → Option (Option Value × Mem)) (kk1 : ∀ (s2 : Int32) (s_ : Mem), SimR l G Y_X12_again lim (K (.inl (s2, s_))) 22 [some (.inr (.inr x0)), some (.inl x1), some (.inl s2)] [] s_) (kk2_0 : ∀ (s_ : Mem), SimR l G Y_X12_again lim (K (.inr s_)) 55 [none, none, none] [] s_) : Sim l G Y_X12_again lim (f_X12_again_B22 M x0 x1 x2) K 22 [some (.inr (.inr x0)), some (.inl x1), some (.inl x2)] [] M := by
  unfold f_X12_again_B22
  refine s_run (b := [(.iload_n 2, 1), (.sipush 988, 3)]) 26 [some (.inr (.inr x0)), some (.inl x1), some (.inl x2)] [.inl (988 : Int32), .inl x2] (by decide +kernel) rfl ?_
  refine s_ic_ge (tgt := 55) (off := 29) (by decide +kernel) (by decide) (fun h1 => ?_) (fun h1 => ?_)
  · skip
    exact s_lsub (ls' := [none, none, none]) trivial (kk2_0 M)
  · skip
    refine s_run (b := [(.aload_n 0, 1)]) 30 [some (.inr (.inr x0)), some (.inl x1), some (.inl x2)] [.inr (.inr x0)] (by decide +kernel) rfl ?_
    refine s_gR fl_12_7 rfl (by decide +kernel) (fun v2 => ?_)
    refine s_run (b := [(.iload_n 2, 1), (.aload_n 0, 1)]) 35 [some (.inr (.inr x0)), some (.inl x1), some (.inl x2)] [.inr (.inr x0), .inl x2, .inr (.inr v2)] (by decide +kernel) rfl ?_
    refine s_gR fl_12_7 rfl (by decide +kernel) (fun v3 => ?_)
    refine s_run (b := [(.sipush 988, 3), (.iload_n 1, 1), (.iconst 1, 1), (.iadd, 1), (.imul, 1), (.iload_n 2, 1), (.iadd, 1)]) 47 [some (.inr (.inr x0)), some (.inl x1), some (.inl x2)] [.inl (((988 : Int32) * (x1 + (1 : Int32))) + x2), .inr (.inr v3), .inl x2, .inr (.inr v2)] (by decide +kernel) rfl ?_
    refine s_ia (by decide +kernel) (fun v4 => ?_)
    refine s_is (by decide +kernel) (fun M5 => ?_)
    refine s_run (b := [(.iinc 2 1, 3), (.goto (-30), 3)]) 22 [some (.inr (.inr x0)), some (.inl x1), some (.inl (x2 + (1 : Int32)))] [] (by decide +kernel) rfl ?_
    exact s_lsub (ls' := [some (.inr (.inr x0)), some (.inl x1), some (.inl (x2 + (1 : Int32)))]) ⟨rfl, ⟨rfl, ⟨rfl, trivial⟩⟩⟩ (kk1 (x2 + (1 : Int32)) M5)
set_option maxRecDepth 20000 in
theorem L_X12_again_22 {l : Launch} {G : Gv} {lim : Nat × Nat} (M : Mem) (x0 : Nat) (x1 : Int32) (x2 : Int32) (K : ((Mem)) → Option (Option Value × Mem)) (kk2_0 : ∀ r : Mem, SimR l G Y_X12_again lim (K r) 55 [none, none, none] [] r) : Sim l G Y_X12_again lim (f_X12_again_L22 M x0 x1 x2) K 22 [some (.inr (.inr x0)), some (.inl x1), some (.inl x2)] [] M :=
  s_iter (f := fun s : Int32 × Mem => f_X12_again_B22 s.2 x0 x1 s.1) (hd := 22) (cl := fun s => [some (.inr (.inr x0)), some (.inl x1), some (.inl s.1)]) (cm := fun s => s.2) (xp := fun _ => 55) (xl := fun r => [none, none, none]) (xm := fun r => r) (fun s K h1 h2 => B_X12_again_22 s.2 x0 x1 s.1 K (fun a2 a_ => h1 (a2, a_)) (fun a_ => h2 a_)) 1048576 (x2, M) K kk2_0
def f_X12_again (M : Mem) (x0 : Nat) (x1 : Int32) : Option (Int32 × Mem) :=
  (f_X12_isIn M x1 (0 : Int32) (2 : Int32)).bind fun v1 =>
  (if v1 = 0 then
    some ((0 : Int32), M)
  else
    (gR M 12 x0 1).bind fun v3 =>
    (aI M 2 v3 x1).bind fun v4 =>
    (if v4 = 0 then
      some ((0 : Int32), M)
    else
      (f_X12_again_L22 M x0 x1 (0 : Int32)).bind fun r6 =>
      some ((1 : Int32), r6)))
set_option maxRecDepth 20000 in
theorem S_X12_again {l : Launch} {G : Gv} {lim : Nat × Nat} (M : Mem) (x0 : Nat) (x1 : Int32) : Sim l G Y_X12_again lim (f_X12_again M x0 x1) (fun z => some (some (.int z.1), z.2)) 0 [some (.inr (.inr x0)), some (.inl x1), none] [] M := by
  unfold f_X12_again
  refine s_run (b := [(.iload_n 1, 1), (.iconst 0, 1), (.iconst 2, 1)]) 3 [some (.inr (.inr x0)), some (.inl x1), none] [.inl (2 : Int32), .inl (0 : Int32), .inl x1] (by decide +kernel) rfl ?_
  refine s_cS (Z := Y_X12_isIn) (vs := [.inl x1, .inl (0 : Int32), .inl (2 : Int32)]) (st := []) (rO := fun z => some (.inl z)) (mO := fun _ => M) zk_X12_isIn q1464 q1463 ⟨by decide, by decide⟩ ⟨rfl, rfl⟩ rfl rfl (Nat.le_of_ble_eq_true rfl) (by decide +kernel) (fun z hz => c_X12_isIn hz) (fun v1 => ?_)
  change Sim l G Y_X12_again lim _ _ 6 [some (.inr (.inr x0)), some (.inl x1), none] [.inl v1] M
  refine s_if_eq (tgt := 18) (off := 12) (by decide +kernel) (by decide) (fun h2 => ?_) (fun h2 => ?_)
  · skip
    refine s_run (b := [(.iconst 0, 1)]) 19 [some (.inr (.inr x0)), some (.inl x1), none] [.inl (0 : Int32)] (by decide +kernel) rfl ?_
    exact s_bret (Or.inl rfl) (by decide +kernel) rfl
  · skip
    refine s_run (b := [(.aload_n 0, 1)]) 10 [some (.inr (.inr x0)), some (.inl x1), none] [.inr (.inr x0)] (by decide +kernel) rfl ?_
    refine s_gR fl_12_13 rfl (by decide +kernel) (fun v3 => ?_)
    refine s_run (b := [(.iload_n 1, 1)]) 14 [some (.inr (.inr x0)), some (.inl x1), none] [.inl x1, .inr (.inr v3)] (by decide +kernel) rfl ?_
    refine s_ba (by decide) (by decide +kernel) (fun v4 => ?_)
    refine s_if_ne (tgt := 20) (off := 5) (by decide +kernel) (by decide) (fun h5 => ?_) (fun h5 => ?_)
    · skip
      refine s_run (b := [(.iconst 0, 1)]) 19 [some (.inr (.inr x0)), some (.inl x1), none] [.inl (0 : Int32)] (by decide +kernel) rfl ?_
      exact s_bret (Or.inl rfl) (by decide +kernel) rfl
    · skip
      refine s_run (b := [(.iconst 0, 1), (.istore_n 2, 1)]) 22 [some (.inr (.inr x0)), some (.inl x1), some (.inl (0 : Int32))] [] (by decide +kernel) rfl ?_
      refine s_lsub (ls' := [some (.inr (.inr x0)), some (.inl x1), some (.inl (0 : Int32))]) ⟨rfl, ⟨rfl, ⟨rfl, trivial⟩⟩⟩ ?_
      refine sim_bind (L_X12_again_22 M x0 x1 (0 : Int32) _ (fun r6 => ?_))
      change Sim l G Y_X12_again lim _ _ 55 [none, none, none] [] r6
      refine s_run (b := [(.iconst 1, 1)]) 56 [none, none, none] [.inl (1 : Int32)] (by decide +kernel) rfl ?_
      exact s_bret (Or.inr rfl) (by decide +kernel) rfl
set_option maxRecDepth 20000 in
theorem c_X12_again {l : Launch} {G : Gv} {M : Mem} {x0 : Nat} {x1 : Int32} {z : Int32 × Mem} (h : f_X12_again M x0 x1 = some z) : MetS l G Y_X12_again [.inr (.inr x0), .inl x1] M (some (.int z.1)) z.2 :=
  met_of (ls0 := [some (.inr (.inr x0)), some (.inl x1), none]) (by decide) rfl (lv_in (m := 1) rfl) (sl_le (Nat.le_of_ble_eq_true rfl)) (by rw [h]; rfl) (Or.inl ⟨rfl, rfl⟩) (S_X12_again M x0 x1)
def f_X12_beginsRule (M : Mem) (x0 : Nat) : Option (Mem) :=
  (ob M 12 x0).bind fun _ => (f_X12_begins M x0).bind fun z1 =>
  (pI z1 12 x0 37 (0 : Int32)).bind fun M2 =>
  (pI M2 12 x0 38 (0 : Int32)).bind fun M3 =>
  some M3
set_option maxRecDepth 20000 in
theorem S_X12_beginsRule {l : Launch} {G : Gv} {lim : Nat × Nat} (M : Mem) (x0 : Nat) : Sim l G Y_X12_beginsRule lim (f_X12_beginsRule M x0) (fun z => some (none, z)) 0 [some (.inr (.inr x0))] [] M := by
  unfold f_X12_beginsRule
  refine s_run (b := [(.aload_n 0, 1)]) 1 [some (.inr (.inr x0))] [.inr (.inr x0)] (by decide +kernel) rfl ?_
  refine s_cV (Z := Y_X12_begins) (c := 12) (vs := []) (st := []) (rO := fun _ => none) (mO := fun z => z) zk_X12_begins zi_X12_begins q1586 rfl ⟨by decide, by decide⟩ ⟨rfl, rfl⟩ rfl rfl (Nat.le_of_ble_eq_true rfl) (by decide +kernel) (fun z hz => c_X12_begins hz) (fun z1 => ?_)
  change Sim l G Y_X12_beginsRule lim _ _ 4 [some (.inr (.inr x0))] [] z1
  refine s_run (b := [(.aload_n 0, 1), (.iconst 0, 1)]) 6 [some (.inr (.inr x0))] [.inl (0 : Int32), .inr (.inr x0)] (by decide +kernel) rfl ?_
  refine s_pI fl_12_366 (Or.inl rfl) rfl (by decide +kernel) (fun M2 => ?_)
  refine s_run (b := [(.aload_n 0, 1), (.iconst 0, 1)]) 11 [some (.inr (.inr x0))] [.inl (0 : Int32), .inr (.inr x0)] (by decide +kernel) rfl ?_
  refine s_pI fl_12_372 (Or.inl rfl) rfl (by decide +kernel) (fun M3 => ?_)
  exact s_vret (by decide +kernel) rfl
set_option maxRecDepth 20000 in
theorem c_X12_beginsRule {l : Launch} {G : Gv} {M : Mem} {x0 : Nat} {z : Mem} (h : f_X12_beginsRule M x0 = some z) : MetS l G Y_X12_beginsRule [.inr (.inr x0)] M none z :=
  met_of (ls0 := [some (.inr (.inr x0))]) (by decide) rfl (lv_in (m := 0) rfl) (sl_le (Nat.le_of_ble_eq_true rfl)) (by rw [h]; rfl) (Or.inl ⟨rfl, rfl⟩) (S_X12_beginsRule M x0)
def f_X12_isNearer (M : Mem) (x0 : Nat) (x1 : Int32) (x2 : Int32) : Option (Int32) :=
  (gI M 12 x0 16).bind fun v1 =>
  (if v1 = (-1 : Int32) then
    some (1 : Int32)
  else
    (ob M 12 x0).bind fun _ => (f_X12_off M x0 x1 x2).bind fun v3 =>
    (gI M 12 x0 16).bind fun v4 =>
    (ob M 12 x0).bind fun _ => (f_X12_off M x0 v4 x2).bind fun v5 =>
    (if v5 ≤ v3 then
      some (0 : Int32)
    else
      some (1 : Int32)))
set_option maxRecDepth 20000 in
theorem S_X12_isNearer {l : Launch} {G : Gv} {lim : Nat × Nat} (M : Mem) (x0 : Nat) (x1 : Int32) (x2 : Int32) : Sim l G Y_X12_isNearer lim (f_X12_isNearer M x0 x1 x2) (fun z => some (some (.int z), M)) 0 [some (.inr (.inr x0)), some (.inl x1), some (.inl x2)] [] M := by
  unfold f_X12_isNearer
  refine s_run (b := [(.aload_n 0, 1)]) 1 [some (.inr (.inr x0)), some (.inl x1), some (.inl x2)] [.inr (.inr x0)] (by decide +kernel) rfl ?_
  refine s_gI fl_12_195 rfl (by decide +kernel) (fun v1 => ?_)
  refine s_run (b := [(.iconst (-1), 1)]) 5 [some (.inr (.inr x0)), some (.inl x1), some (.inl x2)] [.inl (-1 : Int32), .inl v1] (by decide +kernel) rfl ?_
  refine s_ic_eq (tgt := 26) (off := 21) (by decide +kernel) (by decide) (fun h2 => ?_) (fun h2 => ?_)
  · skip
    refine s_run (b := [(.iconst 1, 1), (.goto 4, 3)]) 31 [some (.inr (.inr x0)), some (.inl x1), some (.inl x2)] [.inl (1 : Int32)] (by decide +kernel) rfl ?_
    exact s_bret (Or.inr rfl) (by decide +kernel) rfl
  · skip
    refine s_run (b := [(.aload_n 0, 1), (.iload_n 1, 1), (.iload_n 2, 1)]) 11 [some (.inr (.inr x0)), some (.inl x1), some (.inl x2)] [.inl x2, .inl x1, .inr (.inr x0)] (by decide +kernel) rfl ?_
    refine s_cV (Z := Y_X12_off) (c := 12) (vs := [.inl x1, .inl x2]) (st := []) (rO := fun z => some (.inl z)) (mO := fun _ => M) zk_X12_off zi_X12_off q1613 rfl ⟨by decide, by decide⟩ ⟨rfl, rfl⟩ rfl rfl (Nat.le_of_ble_eq_true rfl) (by decide +kernel) (fun z hz => c_X12_off hz) (fun v3 => ?_)
    change Sim l G Y_X12_isNearer lim _ _ 14 [some (.inr (.inr x0)), some (.inl x1), some (.inl x2)] [.inl v3] M
    refine s_run (b := [(.aload_n 0, 1), (.aload_n 0, 1)]) 16 [some (.inr (.inr x0)), some (.inl x1), some (.inl x2)] [.inr (.inr x0), .inr (.inr x0), .inl v3] (by decide +kernel) rfl ?_
    refine s_gI fl_12_195 rfl (by decide +kernel) (fun v4 => ?_)
    refine s_run (b := [(.iload_n 2, 1)]) 20 [some (.inr (.inr x0)), some (.inl x1), some (.inl x2)] [.inl x2, .inl v4, .inr (.inr x0), .inl v3] (by decide +kernel) rfl ?_
    refine s_cV (Z := Y_X12_off) (c := 12) (vs := [.inl v4, .inl x2]) (st := [.inl v3]) (rO := fun z => some (.inl z)) (mO := fun _ => M) zk_X12_off zi_X12_off q1613 rfl ⟨by decide, by decide⟩ ⟨rfl, rfl⟩ rfl rfl (Nat.le_of_ble_eq_true rfl) (by decide +kernel) (fun z hz => c_X12_off hz) (fun v5 => ?_)
    change Sim l G Y_X12_isNearer lim _ _ 23 [some (.inr (.inr x0)), some (.inl x1), some (.inl x2)] [.inl v5, .inl v3] M
    refine s_ic_ge (tgt := 30) (off := 7) (by decide +kernel) (by decide) (fun h6 => ?_) (fun h6 => ?_)
    · skip
      refine s_run (b := [(.iconst 0, 1)]) 31 [some (.inr (.inr x0)), some (.inl x1), some (.inl x2)] [.inl (0 : Int32)] (by decide +kernel) rfl ?_
      exact s_bret (Or.inl rfl) (by decide +kernel) rfl
    · skip
      refine s_run (b := [(.iconst 1, 1), (.goto 4, 3)]) 31 [some (.inr (.inr x0)), some (.inl x1), some (.inl x2)] [.inl (1 : Int32)] (by decide +kernel) rfl ?_
      exact s_bret (Or.inr rfl) (by decide +kernel) rfl
set_option maxRecDepth 20000 in
theorem c_X12_isNearer {l : Launch} {G : Gv} {M : Mem} {x0 : Nat} {x1 : Int32} {x2 : Int32} {z : Int32} (h : f_X12_isNearer M x0 x1 x2 = some z) : MetS l G Y_X12_isNearer [.inr (.inr x0), .inl x1, .inl x2] M (some (.int z)) M :=
  met_of (ls0 := [some (.inr (.inr x0)), some (.inl x1), some (.inl x2)]) (by decide) rfl (lv_in (m := 0) rfl) (sl_le (Nat.le_of_ble_eq_true rfl)) (by rw [h]; rfl) (Or.inl ⟨rfl, rfl⟩) (S_X12_isNearer M x0 x1 x2)
def f_X12_byRule_J133 (M : Mem) (x0 : Nat) (x1 : Int32) (x2 : Int32) (x3 : Int32) (x4 : Int32)  : Option ((Int32 × Mem) ⊕ ((Mem))) :=
  (pI M 12 x0 16 x4).bind fun M1 =>
  (pI M1 12 x0 17 ((4 : Int32) - x1)).bind fun M2 =>
  some (.inl ((x3 + (1 : Int32)), M2))
set_option maxRecDepth 20000 in
theorem J_X12_byRule_133 {l : Launch} {G : Gv} {lim : Nat × Nat} (M : Mem) (x0 : Nat) (x1 : Int32) (x2 : Int32) (x3 : Int32) (x4 : Int32)  (K : (Int32 × Mem) ⊕ ((Mem)) → Option (Option Value × Mem)) (kk1 : ∀ (s3 : Int32) (s_ : Mem), SimR l G Y_X12_byRule lim (K (.inl (s3, s_))) 36 [some (.inr (.inr x0)), some (.inl x1), some (.inl x2), some (.inl s3), none, none] [] s_) (kk2_0 : ∀ (s_ : Mem), SimR l G Y_X12_byRule lim (K (.inr s_)) 152 [none, none, none, none, none, none] [] s_) : Sim l G Y_X12_byRule lim (f_X12_byRule_J133 M x0 x1 x2 x3 x4) K 133 [some (.inr (.inr x0)), some (.inl x1), some (.inl x2), some (.inl x3), some (.inl x4), none] [] M := by
  unfold f_X12_byRule_J133
  refine s_run (b := [(.aload_n 0, 1), (.iload 4, 2)]) 136 [some (.inr (.inr x0)), some (.inl x1), some (.inl x2), some (.inl x3), some (.inl x4), none] [.inl x4, .inr (.inr x0)] (by decide +kernel) rfl ?_
  refine s_pI fl_12_195 (Or.inl rfl) rfl (by decide +kernel) (fun M1 => ?_)
  refine s_run (b := [(.aload_n 0, 1), (.iconst 4, 1), (.iload_n 1, 1), (.isub, 1)]) 143 [some (.inr (.inr x0)), some (.inl x1), some (.inl x2), some (.inl x3), some (.inl x4), none] [.inl ((4 : Int32) - x1), .inr (.inr x0)] (by decide +kernel) rfl ?_
  refine s_pI fl_12_198 (Or.inl rfl) rfl (by decide +kernel) (fun M2 => ?_)
  refine s_run (b := [(.iinc 3 1, 3), (.goto (-113), 3)]) 36 [some (.inr (.inr x0)), some (.inl x1), some (.inl x2), some (.inl (x3 + (1 : Int32))), some (.inl x4), none] [] (by decide +kernel) rfl ?_
  exact s_lsub (ls' := [some (.inr (.inr x0)), some (.inl x1), some (.inl x2), some (.inl (x3 + (1 : Int32))), none, none]) ⟨rfl, ⟨rfl, ⟨rfl, ⟨rfl, trivial⟩⟩⟩⟩ (kk1 (x3 + (1 : Int32)) M2)
def f_X12_byRule_J97 (M : Mem) (x0 : Nat) (x1 : Int32) (x2 : Int32) (x3 : Int32) (x4 : Int32) (y0 : Int32) : Option ((Int32 × Mem) ⊕ ((Mem))) :=
  (if y0 = 0 then
    some (.inl ((x3 + (1 : Int32)), M))
  else
    (if x1 = (3 : Int32) then
      (gI M 12 x0 16).bind fun v3 =>
      (if v3 = (-1 : Int32) then
        f_X12_byRule_J133 M x0 x1 x2 x3 x4 
      else
        some (.inl ((x3 + (1 : Int32)), M)))
    else
      (ob M 12 x0).bind fun _ => (f_X12_isNearer M x0 x4 x2).bind fun v5 =>
      (if v5 = 0 then
        some (.inl ((x3 + (1 : Int32)), M))
      else
        f_X12_byRule_J133 M x0 x1 x2 x3 x4 )))
set_option maxRecDepth 20000 in
theorem J_X12_byRule_97 {l : Launch} {G : Gv} {lim : Nat × Nat} (M : Mem) (x0 : Nat) (x1 : Int32) (x2 : Int32) (x3 : Int32) (x4 : Int32) (y0 : Int32) (K : (Int32 × Mem) ⊕ ((Mem)) → Option (Option Value × Mem)) (kk1 : ∀ (s3 : Int32) (s_ : Mem), SimR l G Y_X12_byRule lim (K (.inl (s3, s_))) 36 [some (.inr (.inr x0)), some (.inl x1), some (.inl x2), some (.inl s3), none, none] [] s_) (kk2_0 : ∀ (s_ : Mem), SimR l G Y_X12_byRule lim (K (.inr s_)) 152 [none, none, none, none, none, none] [] s_) : Sim l G Y_X12_byRule lim (f_X12_byRule_J97 M x0 x1 x2 x3 x4 y0) K 97 [some (.inr (.inr x0)), some (.inl x1), some (.inl x2), some (.inl x3), some (.inl x4), none] [.inl y0] M := by
  unfold f_X12_byRule_J97
  refine s_run (b := [(.istore 5, 2), (.iload 5, 2)]) 101 [some (.inr (.inr x0)), some (.inl x1), some (.inl x2), some (.inl x3), some (.inl x4), some (.inl y0)] [.inl y0] (by decide +kernel) rfl ?_
  refine s_if_eq (tgt := 146) (off := 45) (by decide +kernel) (by decide) (fun h1 => ?_) (fun h1 => ?_)
  · skip
    refine s_run (b := [(.iinc 3 1, 3), (.goto (-113), 3)]) 36 [some (.inr (.inr x0)), some (.inl x1), some (.inl x2), some (.inl (x3 + (1 : Int32))), some (.inl x4), some (.inl y0)] [] (by decide +kernel) rfl ?_
    exact s_lsub (ls' := [some (.inr (.inr x0)), some (.inl x1), some (.inl x2), some (.inl (x3 + (1 : Int32))), none, none]) ⟨rfl, ⟨rfl, ⟨rfl, ⟨rfl, trivial⟩⟩⟩⟩ (kk1 (x3 + (1 : Int32)) M)
  · skip
    refine s_run (b := [(.iload_n 1, 1), (.iconst 3, 1)]) 106 [some (.inr (.inr x0)), some (.inl x1), some (.inl x2), some (.inl x3), some (.inl x4), some (.inl y0)] [.inl (3 : Int32), .inl x1] (by decide +kernel) rfl ?_
    refine s_ic_ne (tgt := 120) (off := 14) (by decide +kernel) (by decide) (fun h2 => ?_) (fun h2 => ?_)
    · skip
      refine s_run (b := [(.aload_n 0, 1)]) 110 [some (.inr (.inr x0)), some (.inl x1), some (.inl x2), some (.inl x3), some (.inl x4), some (.inl y0)] [.inr (.inr x0)] (by decide +kernel) rfl ?_
      refine s_gI fl_12_195 rfl (by decide +kernel) (fun v3 => ?_)
      refine s_run (b := [(.iconst (-1), 1)]) 114 [some (.inr (.inr x0)), some (.inl x1), some (.inl x2), some (.inl x3), some (.inl x4), some (.inl y0)] [.inl (-1 : Int32), .inl v3] (by decide +kernel) rfl ?_
      refine s_ic_eq (tgt := 133) (off := 19) (by decide +kernel) (by decide) (fun h4 => ?_) (fun h4 => ?_)
      · skip
        exact s_lsub (ls' := [some (.inr (.inr x0)), some (.inl x1), some (.inl x2), some (.inl x3), some (.inl x4), none]) ⟨rfl, ⟨rfl, ⟨rfl, ⟨rfl, ⟨rfl, trivial⟩⟩⟩⟩⟩ (J_X12_byRule_133 M x0 x1 x2 x3 x4  K kk1 kk2_0)
      · skip
        refine s_run (b := [(.goto 29, 3), (.iinc 3 1, 3), (.goto (-113), 3)]) 36 [some (.inr (.inr x0)), some (.inl x1), some (.inl x2), some (.inl (x3 + (1 : Int32))), some (.inl x4), some (.inl y0)] [] (by decide +kernel) rfl ?_
        exact s_lsub (ls' := [some (.inr (.inr x0)), some (.inl x1), some (.inl x2), some (.inl (x3 + (1 : Int32))), none, none]) ⟨rfl, ⟨rfl, ⟨rfl, ⟨rfl, trivial⟩⟩⟩⟩ (kk1 (x3 + (1 : Int32)) M)
    · skip
      refine s_run (b := [(.aload_n 0, 1), (.iload 4, 2), (.iload_n 2, 1)]) 124 [some (.inr (.inr x0)), some (.inl x1), some (.inl x2), some (.inl x3), some (.inl x4), some (.inl y0)] [.inl x2, .inl x4, .inr (.inr x0)] (by decide +kernel) rfl ?_
      refine s_cV (Z := Y_X12_isNearer) (c := 12) (vs := [.inl x4, .inl x2]) (st := []) (rO := fun z => some (.inl z)) (mO := fun _ => M) zk_X12_isNearer zi_X12_isNearer q1799 rfl ⟨by decide, by decide⟩ ⟨rfl, rfl⟩ rfl rfl (Nat.le_of_ble_eq_true rfl) (by decide +kernel) (fun z hz => c_X12_isNearer hz) (fun v5 => ?_)
      change Sim l G Y_X12_byRule lim _ _ 127 [some (.inr (.inr x0)), some (.inl x1), some (.inl x2), some (.inl x3), some (.inl x4), some (.inl y0)] [.inl v5] M
      refine s_if_ne (tgt := 133) (off := 6) (by decide +kernel) (by decide) (fun h6 => ?_) (fun h6 => ?_)
      · skip
        refine s_run (b := [(.goto 16, 3), (.iinc 3 1, 3), (.goto (-113), 3)]) 36 [some (.inr (.inr x0)), some (.inl x1), some (.inl x2), some (.inl (x3 + (1 : Int32))), some (.inl x4), some (.inl y0)] [] (by decide +kernel) rfl ?_
        exact s_lsub (ls' := [some (.inr (.inr x0)), some (.inl x1), some (.inl x2), some (.inl (x3 + (1 : Int32))), none, none]) ⟨rfl, ⟨rfl, ⟨rfl, ⟨rfl, trivial⟩⟩⟩⟩ (kk1 (x3 + (1 : Int32)) M)
      · skip
        exact s_lsub (ls' := [some (.inr (.inr x0)), some (.inl x1), some (.inl x2), some (.inl x3), some (.inl x4), none]) ⟨rfl, ⟨rfl, ⟨rfl, ⟨rfl, ⟨rfl, trivial⟩⟩⟩⟩⟩ (J_X12_byRule_133 M x0 x1 x2 x3 x4  K kk1 kk2_0)
def f_X12_byRule_J64 (M : Mem) (x0 : Nat) (x1 : Int32) (x2 : Int32) (x3 : Int32) (y0 : Int32) : Option ((Int32 × Mem) ⊕ ((Mem))) :=
  (ob M 12 x0).bind fun _ => (f_X12_hears M x0 y0 x2).bind fun v1 =>
  (if v1 = 0 then
    f_X12_byRule_J97 M x0 x1 x2 x3 y0 (0 : Int32)
  else
    (if x1 = (1 : Int32) then
      (ob M 12 x0).bind fun _ => (f_X12_of M x0 y0 (0 : Int32)).bind fun v4 =>
      (if v4 = (2 : Int32) then
        f_X12_byRule_J97 M x0 x1 x2 x3 y0 (0 : Int32)
      else
        f_X12_byRule_J97 M x0 x1 x2 x3 y0 (1 : Int32))
    else
      f_X12_byRule_J97 M x0 x1 x2 x3 y0 (1 : Int32)))
set_option maxRecDepth 20000 in
theorem J_X12_byRule_64 {l : Launch} {G : Gv} {lim : Nat × Nat} (M : Mem) (x0 : Nat) (x1 : Int32) (x2 : Int32) (x3 : Int32) (y0 : Int32) (K : (Int32 × Mem) ⊕ ((Mem)) → Option (Option Value × Mem)) (kk1 : ∀ (s3 : Int32) (s_ : Mem), SimR l G Y_X12_byRule lim (K (.inl (s3, s_))) 36 [some (.inr (.inr x0)), some (.inl x1), some (.inl x2), some (.inl s3), none, none] [] s_) (kk2_0 : ∀ (s_ : Mem), SimR l G Y_X12_byRule lim (K (.inr s_)) 152 [none, none, none, none, none, none] [] s_) : Sim l G Y_X12_byRule lim (f_X12_byRule_J64 M x0 x1 x2 x3 y0) K 64 [some (.inr (.inr x0)), some (.inl x1), some (.inl x2), some (.inl x3), none, none] [.inl y0] M := by
  unfold f_X12_byRule_J64
  refine s_run (b := [(.istore 4, 2), (.aload_n 0, 1), (.iload 4, 2), (.iload_n 2, 1)]) 70 [some (.inr (.inr x0)), some (.inl x1), some (.inl x2), some (.inl x3), some (.inl y0), none] [.inl x2, .inl y0, .inr (.inr x0)] (by decide +kernel) rfl ?_
  refine s_cV (Z := Y_X12_hears) (c := 12) (vs := [.inl y0, .inl x2]) (st := []) (rO := fun z => some (.inl z)) (mO := fun _ => M) zk_X12_hears zi_X12_hears q1609 rfl ⟨by decide, by decide⟩ ⟨rfl, rfl⟩ rfl rfl (Nat.le_of_ble_eq_true rfl) (by decide +kernel) (fun z hz => c_X12_hears hz) (fun v1 => ?_)
  change Sim l G Y_X12_byRule lim _ _ 73 [some (.inr (.inr x0)), some (.inl x1), some (.inl x2), some (.inl x3), some (.inl y0), none] [.inl v1] M
  refine s_if_eq (tgt := 96) (off := 23) (by decide +kernel) (by decide) (fun h2 => ?_) (fun h2 => ?_)
  · skip
    refine s_run (b := [(.iconst 0, 1)]) 97 [some (.inr (.inr x0)), some (.inl x1), some (.inl x2), some (.inl x3), some (.inl y0), none] [.inl (0 : Int32)] (by decide +kernel) rfl ?_
    exact s_lsub (ls' := [some (.inr (.inr x0)), some (.inl x1), some (.inl x2), some (.inl x3), some (.inl y0), none]) ⟨rfl, ⟨rfl, ⟨rfl, ⟨rfl, ⟨rfl, trivial⟩⟩⟩⟩⟩ (J_X12_byRule_97 M x0 x1 x2 x3 y0 (0 : Int32) K kk1 kk2_0)
  · skip
    refine s_run (b := [(.iload_n 1, 1), (.iconst 1, 1)]) 78 [some (.inr (.inr x0)), some (.inl x1), some (.inl x2), some (.inl x3), some (.inl y0), none] [.inl (1 : Int32), .inl x1] (by decide +kernel) rfl ?_
    refine s_ic_ne (tgt := 92) (off := 14) (by decide +kernel) (by decide) (fun h3 => ?_) (fun h3 => ?_)
    · skip
      refine s_run (b := [(.aload_n 0, 1), (.iload 4, 2), (.iconst 0, 1)]) 85 [some (.inr (.inr x0)), some (.inl x1), some (.inl x2), some (.inl x3), some (.inl y0), none] [.inl (0 : Int32), .inl y0, .inr (.inr x0)] (by decide +kernel) rfl ?_
      refine s_cV (Z := Y_X12_of) (c := 12) (vs := [.inl y0, .inl (0 : Int32)]) (st := []) (rO := fun z => some (.inl z)) (mO := fun _ => M) zk_X12_of zi_X12_of q1558 rfl ⟨by decide, by decide⟩ ⟨rfl, rfl⟩ rfl rfl (Nat.le_of_ble_eq_true rfl) (by decide +kernel) (fun z hz => c_X12_of hz) (fun v4 => ?_)
      change Sim l G Y_X12_byRule lim _ _ 88 [some (.inr (.inr x0)), some (.inl x1), some (.inl x2), some (.inl x3), some (.inl y0), none] [.inl v4] M
      refine s_run (b := [(.iconst 2, 1)]) 89 [some (.inr (.inr x0)), some (.inl x1), some (.inl x2), some (.inl x3), some (.inl y0), none] [.inl (2 : Int32), .inl v4] (by decide +kernel) rfl ?_
      refine s_ic_eq (tgt := 96) (off := 7) (by decide +kernel) (by decide) (fun h5 => ?_) (fun h5 => ?_)
      · skip
        refine s_run (b := [(.iconst 0, 1)]) 97 [some (.inr (.inr x0)), some (.inl x1), some (.inl x2), some (.inl x3), some (.inl y0), none] [.inl (0 : Int32)] (by decide +kernel) rfl ?_
        exact s_lsub (ls' := [some (.inr (.inr x0)), some (.inl x1), some (.inl x2), some (.inl x3), some (.inl y0), none]) ⟨rfl, ⟨rfl, ⟨rfl, ⟨rfl, ⟨rfl, trivial⟩⟩⟩⟩⟩ (J_X12_byRule_97 M x0 x1 x2 x3 y0 (0 : Int32) K kk1 kk2_0)
      · skip
        refine s_run (b := [(.iconst 1, 1), (.goto 4, 3)]) 97 [some (.inr (.inr x0)), some (.inl x1), some (.inl x2), some (.inl x3), some (.inl y0), none] [.inl (1 : Int32)] (by decide +kernel) rfl ?_
        exact s_lsub (ls' := [some (.inr (.inr x0)), some (.inl x1), some (.inl x2), some (.inl x3), some (.inl y0), none]) ⟨rfl, ⟨rfl, ⟨rfl, ⟨rfl, ⟨rfl, trivial⟩⟩⟩⟩⟩ (J_X12_byRule_97 M x0 x1 x2 x3 y0 (1 : Int32) K kk1 kk2_0)
    · skip
      refine s_run (b := [(.iconst 1, 1), (.goto 4, 3)]) 97 [some (.inr (.inr x0)), some (.inl x1), some (.inl x2), some (.inl x3), some (.inl y0), none] [.inl (1 : Int32)] (by decide +kernel) rfl ?_
      exact s_lsub (ls' := [some (.inr (.inr x0)), some (.inl x1), some (.inl x2), some (.inl x3), some (.inl y0), none]) ⟨rfl, ⟨rfl, ⟨rfl, ⟨rfl, ⟨rfl, trivial⟩⟩⟩⟩⟩ (J_X12_byRule_97 M x0 x1 x2 x3 y0 (1 : Int32) K kk1 kk2_0)
def f_X12_byRule_B36 (M : Mem) (x0 : Nat) (x1 : Int32) (x2 : Int32) (x3 : Int32) : Option ((Int32 × Mem) ⊕ ((Mem))) :=
  (gI M 12 x0 12).bind fun v1 =>
  (if v1 ≤ x3 then
    some (.inr M)
  else
    (if x1 = (3 : Int32) then
      (gI M 12 x0 37).bind fun v4 =>
      (gI M 12 x0 12).bind fun v5 =>
      (rmI (v4 + x3) v5).bind fun v6 =>
      f_X12_byRule_J64 M x0 x1 x2 x3 v6
    else
      f_X12_byRule_J64 M x0 x1 x2 x3 x3))
def f_X12_byRule_L36 (M : Mem) (x0 : Nat) (x1 : Int32) (x2 : Int32) (x3 : Int32) : Option ((Mem)) := iter (fun s : Int32 × Mem => f_X12_byRule_B36 s.2 x0 x1 x2 s.1) 1048576 (x3, M)
set_option maxRecDepth 20000 in
theorem B_X12_byRule_36 {l : Launch} {G : Gv} {lim : Nat × Nat} (M : Mem) (x0 : Nat) (x1 : Int32) (x2 : Int32) (x3 : Int32) (K : (Int32 × Mem) ⊕ ((Mem)) → Option (Option Value × Mem)) (kk1 : ∀ (s3 : Int32) (s_ : Mem), SimR l G Y_X12_byRule lim (K (.inl (s3, s_))) 36 [some (.inr (.inr x0)), some (.inl x1), some (.inl x2), some (.inl s3), none, none] [] s_) (kk2_0 : ∀ (s_ : Mem), SimR l G Y_X12_byRule lim (K (.inr s_)) 152 [none, none, none, none, none, none] [] s_) : Sim l G Y_X12_byRule lim (f_X12_byRule_B36 M x0 x1 x2 x3) K 36 [some (.inr (.inr x0)), some (.inl x1), some (.inl x2), some (.inl x3), none, none] [] M := by
  unfold f_X12_byRule_B36
  refine s_run (b := [(.iload_n 3, 1), (.aload_n 0, 1)]) 38 [some (.inr (.inr x0)), some (.inl x1), some (.inl x2), some (.inl x3), none, none] [.inr (.inr x0), .inl x3] (by decide +kernel) rfl ?_
  refine s_gI fl_12_162 rfl (by decide +kernel) (fun v1 => ?_)
  refine s_ic_ge (tgt := 152) (off := 111) (by decide +kernel) (by decide) (fun h2 => ?_) (fun h2 => ?_)
  · skip
    exact s_lsub (ls' := [none, none, none, none, none, none]) trivial (kk2_0 M)
  · skip
    refine s_run (b := [(.iload_n 1, 1), (.iconst 3, 1)]) 46 [some (.inr (.inr x0)), some (.inl x1), some (.inl x2), some (.inl x3), none, none] [.inl (3 : Int32), .inl x1] (by decide +kernel) rfl ?_
    refine s_ic_ne (tgt := 63) (off := 17) (by decide +kernel) (by decide) (fun h3 => ?_) (fun h3 => ?_)
    · skip
      refine s_run (b := [(.aload_n 0, 1)]) 50 [some (.inr (.inr x0)), some (.inl x1), some (.inl x2), some (.inl x3), none, none] [.inr (.inr x0)] (by decide +kernel) rfl ?_
      refine s_gI fl_12_366 rfl (by decide +kernel) (fun v4 => ?_)
      refine s_run (b := [(.iload_n 3, 1), (.iadd, 1), (.aload_n 0, 1)]) 56 [some (.inr (.inr x0)), some (.inl x1), some (.inl x2), some (.inl x3), none, none] [.inr (.inr x0), .inl (v4 + x3)] (by decide +kernel) rfl ?_
      refine s_gI fl_12_162 rfl (by decide +kernel) (fun v5 => ?_)
      refine s_irem (by decide +kernel) (fun v6 => ?_)
      refine s_run (b := [(.goto 4, 3)]) 64 [some (.inr (.inr x0)), some (.inl x1), some (.inl x2), some (.inl x3), none, none] [.inl v6] (by decide +kernel) rfl ?_
      exact s_lsub (ls' := [some (.inr (.inr x0)), some (.inl x1), some (.inl x2), some (.inl x3), none, none]) ⟨rfl, ⟨rfl, ⟨rfl, ⟨rfl, trivial⟩⟩⟩⟩ (J_X12_byRule_64 M x0 x1 x2 x3 v6 K kk1 kk2_0)
    · skip
      refine s_run (b := [(.iload_n 3, 1)]) 64 [some (.inr (.inr x0)), some (.inl x1), some (.inl x2), some (.inl x3), none, none] [.inl x3] (by decide +kernel) rfl ?_
      exact s_lsub (ls' := [some (.inr (.inr x0)), some (.inl x1), some (.inl x2), some (.inl x3), none, none]) ⟨rfl, ⟨rfl, ⟨rfl, ⟨rfl, trivial⟩⟩⟩⟩ (J_X12_byRule_64 M x0 x1 x2 x3 x3 K kk1 kk2_0)
set_option maxRecDepth 20000 in
theorem L_X12_byRule_36 {l : Launch} {G : Gv} {lim : Nat × Nat} (M : Mem) (x0 : Nat) (x1 : Int32) (x2 : Int32) (x3 : Int32) (K : ((Mem)) → Option (Option Value × Mem)) (kk2_0 : ∀ r : Mem, SimR l G Y_X12_byRule lim (K r) 152 [none, none, none, none, none, none] [] r) : Sim l G Y_X12_byRule lim (f_X12_byRule_L36 M x0 x1 x2 x3) K 36 [some (.inr (.inr x0)), some (.inl x1), some (.inl x2), some (.inl x3), none, none] [] M :=
  s_iter (f := fun s : Int32 × Mem => f_X12_byRule_B36 s.2 x0 x1 x2 s.1) (hd := 36) (cl := fun s => [some (.inr (.inr x0)), some (.inl x1), some (.inl x2), some (.inl s.1), none, none]) (cm := fun s => s.2) (xp := fun _ => 152) (xl := fun r => [none, none, none, none, none, none]) (xm := fun r => r) (fun s K h1 h2 => B_X12_byRule_36 s.2 x0 x1 x2 s.1 K (fun a3 a_ => h1 (a3, a_)) (fun a_ => h2 a_)) 1048576 (x3, M) K kk2_0
def f_X12_byRule (M : Mem) (x0 : Nat) (x1 : Int32) (x2 : Int32) : Option (Mem) :=
  (if x1 = 0 then
    (gI M 12 x0 12).bind fun v2 =>
    (ob M 12 x0).bind fun _ => (f_X12_rings M x0 x2 ((((1 : Int32) <<< (v2 &&& 31)) - (1 : Int32)) &&& (((1 : Int32) <<< (x2 &&& 31)) ^^^ (-1 : Int32)))).bind fun z3 =>
    some z3
  else
    (pI M 12 x0 16 (-1 : Int32)).bind fun M4 =>
    (pI M4 12 x0 17 (-1 : Int32)).bind fun M5 =>
    (f_X12_byRule_L36 M5 x0 x1 x2 (0 : Int32)).bind fun r6 =>
    some r6)
set_option maxRecDepth 20000 in
theorem S_X12_byRule {l : Launch} {G : Gv} {lim : Nat × Nat} (M : Mem) (x0 : Nat) (x1 : Int32) (x2 : Int32) : Sim l G Y_X12_byRule lim (f_X12_byRule M x0 x1 x2) (fun z => some (none, z)) 0 [some (.inr (.inr x0)), some (.inl x1), some (.inl x2), none, none, none] [] M := by
  unfold f_X12_byRule
  refine s_run (b := [(.iload_n 1, 1)]) 1 [some (.inr (.inr x0)), some (.inl x1), some (.inl x2), none, none, none] [.inl x1] (by decide +kernel) rfl ?_
  refine s_if_ne (tgt := 24) (off := 23) (by decide +kernel) (by decide) (fun h1 => ?_) (fun h1 => ?_)
  · skip
    refine s_run (b := [(.aload_n 0, 1), (.iload_n 2, 1), (.iconst 1, 1), (.aload_n 0, 1)]) 8 [some (.inr (.inr x0)), some (.inl x1), some (.inl x2), none, none, none] [.inr (.inr x0), .inl (1 : Int32), .inl x2, .inr (.inr x0)] (by decide +kernel) rfl ?_
    refine s_gI fl_12_162 rfl (by decide +kernel) (fun v2 => ?_)
    refine s_run (b := [(.ishl, 1), (.iconst 1, 1), (.isub, 1), (.iconst 1, 1), (.iload_n 2, 1), (.ishl, 1), (.iconst (-1), 1), (.ixor, 1), (.iand, 1)]) 20 [some (.inr (.inr x0)), some (.inl x1), some (.inl x2), none, none, none] [.inl ((((1 : Int32) <<< (v2 &&& 31)) - (1 : Int32)) &&& (((1 : Int32) <<< (x2 &&& 31)) ^^^ (-1 : Int32))), .inl x2, .inr (.inr x0)] (by decide +kernel) rfl ?_
    refine s_cV (Z := Y_X12_rings) (c := 12) (vs := [.inl x2, .inl ((((1 : Int32) <<< (v2 &&& 31)) - (1 : Int32)) &&& (((1 : Int32) <<< (x2 &&& 31)) ^^^ (-1 : Int32)))]) (st := []) (rO := fun _ => none) (mO := fun z => z) zk_X12_rings zi_X12_rings q1605 rfl ⟨by decide, by decide⟩ ⟨rfl, rfl⟩ rfl rfl (Nat.le_of_ble_eq_true rfl) (by decide +kernel) (fun z hz => c_X12_rings hz) (fun z3 => ?_)
    change Sim l G Y_X12_byRule lim _ _ 23 [some (.inr (.inr x0)), some (.inl x1), some (.inl x2), none, none, none] [] z3
    exact s_vret (by decide +kernel) rfl
  · skip
    refine s_run (b := [(.aload_n 0, 1), (.iconst (-1), 1)]) 26 [some (.inr (.inr x0)), some (.inl x1), some (.inl x2), none, none, none] [.inl (-1 : Int32), .inr (.inr x0)] (by decide +kernel) rfl ?_
    refine s_pI fl_12_195 (Or.inl rfl) rfl (by decide +kernel) (fun M4 => ?_)
    refine s_run (b := [(.aload_n 0, 1), (.iconst (-1), 1)]) 31 [some (.inr (.inr x0)), some (.inl x1), some (.inl x2), none, none, none] [.inl (-1 : Int32), .inr (.inr x0)] (by decide +kernel) rfl ?_
    refine s_pI fl_12_198 (Or.inl rfl) rfl (by decide +kernel) (fun M5 => ?_)
    refine s_run (b := [(.iconst 0, 1), (.istore_n 3, 1)]) 36 [some (.inr (.inr x0)), some (.inl x1), some (.inl x2), some (.inl (0 : Int32)), none, none] [] (by decide +kernel) rfl ?_
    refine s_lsub (ls' := [some (.inr (.inr x0)), some (.inl x1), some (.inl x2), some (.inl (0 : Int32)), none, none]) ⟨rfl, ⟨rfl, ⟨rfl, ⟨rfl, trivial⟩⟩⟩⟩ ?_
    refine sim_bind (L_X12_byRule_36 M5 x0 x1 x2 (0 : Int32) _ (fun r6 => ?_))
    change Sim l G Y_X12_byRule lim _ _ 152 [none, none, none, none, none, none] [] r6
    exact s_vret (by decide +kernel) rfl
set_option maxRecDepth 20000 in
theorem c_X12_byRule {l : Launch} {G : Gv} {M : Mem} {x0 : Nat} {x1 : Int32} {x2 : Int32} {z : Mem} (h : f_X12_byRule M x0 x1 x2 = some z) : MetS l G Y_X12_byRule [.inr (.inr x0), .inl x1, .inl x2] M none z :=
  met_of (ls0 := [some (.inr (.inr x0)), some (.inl x1), some (.inl x2), none, none, none]) (by decide) rfl (lv_in (m := 3) rfl) (sl_le (Nat.le_of_ble_eq_true rfl)) (by rw [h]; rfl) (Or.inl ⟨rfl, rfl⟩) (S_X12_byRule M x0 x1 x2)
def f_X12_ruled (M : Mem) (x0 : Nat) (x1 : Int32) (x2 : Int32) : Option (Mem) :=
  (ob M 12 x0).bind fun _ => (f_X12_ofCall M x0 x2 (0 : Int32)).bind fun v1 =>
  (ob M 12 x0).bind fun _ => (f_X12_byRule M x0 x1 v1).bind fun z2 =>
  (ob z2 12 x0).bind fun _ => (f_X12_isLifted z2 x0 x2).bind fun v3 =>
  (if v3 = 0 then
    (gI z2 12 x0 38).bind fun v5 =>
    (pI z2 12 x0 38 (v5 + (1 : Int32))).bind fun M6 =>
    some M6
  else
    (gI z2 12 x0 24).bind fun v7 =>
    (ob z2 12 x0).bind fun _ => (f_X12_ofCall z2 x0 x2 (1 : Int32)).bind fun v8 =>
    (gI z2 12 x0 17).bind fun v9 =>
    (ob z2 12 x0).bind fun _ => (f_X12_gotBy z2 x0 v8 v9).bind fun v10 =>
    (pI z2 12 x0 24 (v7 + v10)).bind fun M11 =>
    (gI M11 12 x0 25).bind fun v12 =>
    (gI M11 12 x0 16).bind fun v13 =>
    (ob M11 12 x0).bind fun _ => (f_X12_of M11 x0 v13 (3 : Int32)).bind fun v14 =>
    (pI M11 12 x0 25 (v12 + v14)).bind fun M15 =>
    (gR M15 12 x0 14).bind fun v16 =>
    (gI M15 12 x0 16).bind fun v17 =>
    (aI M15 0 v16 v17).bind fun v18 =>
    (sI M15 0 v16 v17 (v18 + (1 : Int32))).bind fun M19 =>
    (gI M19 12 x0 16).bind fun v20 =>
    (gI M19 12 x0 12).bind fun v21 =>
    (rmI (v20 + (1 : Int32)) v21).bind fun v22 =>
    (pI M19 12 x0 37 v22).bind fun M23 =>
    some M23)
set_option maxRecDepth 20000 in
theorem S_X12_ruled {l : Launch} {G : Gv} {lim : Nat × Nat} (M : Mem) (x0 : Nat) (x1 : Int32) (x2 : Int32) : Sim l G Y_X12_ruled lim (f_X12_ruled M x0 x1 x2) (fun z => some (none, z)) 0 [some (.inr (.inr x0)), some (.inl x1), some (.inl x2)] [] M := by
  unfold f_X12_ruled
  refine s_run (b := [(.aload_n 0, 1), (.iload_n 1, 1), (.aload_n 0, 1), (.iload_n 2, 1), (.iconst 0, 1)]) 5 [some (.inr (.inr x0)), some (.inl x1), some (.inl x2)] [.inl (0 : Int32), .inl x2, .inr (.inr x0), .inl x1, .inr (.inr x0)] (by decide +kernel) rfl ?_
  refine s_cV (Z := Y_X12_ofCall) (c := 12) (vs := [.inl x2, .inl (0 : Int32)]) (st := [.inl x1, .inr (.inr x0)]) (rO := fun z => some (.inl z)) (mO := fun _ => M) zk_X12_ofCall zi_X12_ofCall q1566 rfl ⟨by decide, by decide⟩ ⟨rfl, rfl⟩ rfl rfl (Nat.le_of_ble_eq_true rfl) (by decide +kernel) (fun z hz => c_X12_ofCall hz) (fun v1 => ?_)
  change Sim l G Y_X12_ruled lim _ _ 8 [some (.inr (.inr x0)), some (.inl x1), some (.inl x2)] [.inl v1, .inl x1, .inr (.inr x0)] M
  refine s_cV (Z := Y_X12_byRule) (c := 12) (vs := [.inl x1, .inl v1]) (st := []) (rO := fun _ => none) (mO := fun z => z) zk_X12_byRule zi_X12_byRule q1795 rfl ⟨by decide, by decide⟩ ⟨rfl, rfl⟩ rfl rfl (Nat.le_of_ble_eq_true rfl) (by decide +kernel) (fun z hz => c_X12_byRule hz) (fun z2 => ?_)
  change Sim l G Y_X12_ruled lim _ _ 11 [some (.inr (.inr x0)), some (.inl x1), some (.inl x2)] [] z2
  refine s_run (b := [(.aload_n 0, 1), (.iload_n 2, 1)]) 13 [some (.inr (.inr x0)), some (.inl x1), some (.inl x2)] [.inl x2, .inr (.inr x0)] (by decide +kernel) rfl ?_
  refine s_cV (Z := Y_X12_isLifted) (c := 12) (vs := [.inl x2]) (st := []) (rO := fun z => some (.inl z)) (mO := fun _ => z2) zk_X12_isLifted zi_X12_isLifted q1625 rfl ⟨by decide, by decide⟩ ⟨rfl, rfl⟩ rfl rfl (Nat.le_of_ble_eq_true rfl) (by decide +kernel) (fun z hz => c_X12_isLifted hz) (fun v3 => ?_)
  change Sim l G Y_X12_ruled lim _ _ 16 [some (.inr (.inr x0)), some (.inl x1), some (.inl x2)] [.inl v3] z2
  refine s_if_ne (tgt := 30) (off := 14) (by decide +kernel) (by decide) (fun h4 => ?_) (fun h4 => ?_)
  · skip
    refine s_run (b := [(.aload_n 0, 1), (.dup, 1)]) 21 [some (.inr (.inr x0)), some (.inl x1), some (.inl x2)] [.inr (.inr x0), .inr (.inr x0)] (by decide +kernel) rfl ?_
    refine s_gI fl_12_372 rfl (by decide +kernel) (fun v5 => ?_)
    refine s_run (b := [(.iconst 1, 1), (.iadd, 1)]) 26 [some (.inr (.inr x0)), some (.inl x1), some (.inl x2)] [.inl (v5 + (1 : Int32)), .inr (.inr x0)] (by decide +kernel) rfl ?_
    refine s_pI fl_12_372 (Or.inl rfl) rfl (by decide +kernel) (fun M6 => ?_)
    exact s_vret (by decide +kernel) rfl
  · skip
    refine s_run (b := [(.aload_n 0, 1), (.dup, 1)]) 32 [some (.inr (.inr x0)), some (.inl x1), some (.inl x2)] [.inr (.inr x0), .inr (.inr x0)] (by decide +kernel) rfl ?_
    refine s_gI fl_12_229 rfl (by decide +kernel) (fun v7 => ?_)
    refine s_run (b := [(.aload_n 0, 1), (.aload_n 0, 1), (.iload_n 2, 1), (.iconst 1, 1)]) 39 [some (.inr (.inr x0)), some (.inl x1), some (.inl x2)] [.inl (1 : Int32), .inl x2, .inr (.inr x0), .inr (.inr x0), .inl v7, .inr (.inr x0)] (by decide +kernel) rfl ?_
    refine s_cV (Z := Y_X12_ofCall) (c := 12) (vs := [.inl x2, .inl (1 : Int32)]) (st := [.inr (.inr x0), .inl v7, .inr (.inr x0)]) (rO := fun z => some (.inl z)) (mO := fun _ => z2) zk_X12_ofCall zi_X12_ofCall q1566 rfl ⟨by decide, by decide⟩ ⟨rfl, rfl⟩ rfl rfl (Nat.le_of_ble_eq_true rfl) (by decide +kernel) (fun z hz => c_X12_ofCall hz) (fun v8 => ?_)
    change Sim l G Y_X12_ruled lim _ _ 42 [some (.inr (.inr x0)), some (.inl x1), some (.inl x2)] [.inl v8, .inr (.inr x0), .inl v7, .inr (.inr x0)] z2
    refine s_run (b := [(.aload_n 0, 1)]) 43 [some (.inr (.inr x0)), some (.inl x1), some (.inl x2)] [.inr (.inr x0), .inl v8, .inr (.inr x0), .inl v7, .inr (.inr x0)] (by decide +kernel) rfl ?_
    refine s_gI fl_12_198 rfl (by decide +kernel) (fun v9 => ?_)
    refine s_cV (Z := Y_X12_gotBy) (c := 12) (vs := [.inl v8, .inl v9]) (st := [.inl v7, .inr (.inr x0)]) (rO := fun z => some (.inl z)) (mO := fun _ => z2) zk_X12_gotBy zi_X12_gotBy q1629 rfl ⟨by decide, by decide⟩ ⟨rfl, rfl⟩ rfl rfl (Nat.le_of_ble_eq_true rfl) (by decide +kernel) (fun z hz => c_X12_gotBy hz) (fun v10 => ?_)
    change Sim l G Y_X12_ruled lim _ _ 49 [some (.inr (.inr x0)), some (.inl x1), some (.inl x2)] [.inl v10, .inl v7, .inr (.inr x0)] z2
    refine s_run (b := [(.iadd, 1)]) 50 [some (.inr (.inr x0)), some (.inl x1), some (.inl x2)] [.inl (v7 + v10), .inr (.inr x0)] (by decide +kernel) rfl ?_
    refine s_pI fl_12_229 (Or.inl rfl) rfl (by decide +kernel) (fun M11 => ?_)
    refine s_run (b := [(.aload_n 0, 1), (.dup, 1)]) 55 [some (.inr (.inr x0)), some (.inl x1), some (.inl x2)] [.inr (.inr x0), .inr (.inr x0)] (by decide +kernel) rfl ?_
    refine s_gI fl_12_232 rfl (by decide +kernel) (fun v12 => ?_)
    refine s_run (b := [(.aload_n 0, 1), (.aload_n 0, 1)]) 60 [some (.inr (.inr x0)), some (.inl x1), some (.inl x2)] [.inr (.inr x0), .inr (.inr x0), .inl v12, .inr (.inr x0)] (by decide +kernel) rfl ?_
    refine s_gI fl_12_195 rfl (by decide +kernel) (fun v13 => ?_)
    refine s_run (b := [(.iconst 3, 1)]) 64 [some (.inr (.inr x0)), some (.inl x1), some (.inl x2)] [.inl (3 : Int32), .inl v13, .inr (.inr x0), .inl v12, .inr (.inr x0)] (by decide +kernel) rfl ?_
    refine s_cV (Z := Y_X12_of) (c := 12) (vs := [.inl v13, .inl (3 : Int32)]) (st := [.inl v12, .inr (.inr x0)]) (rO := fun z => some (.inl z)) (mO := fun _ => M11) zk_X12_of zi_X12_of q1558 rfl ⟨by decide, by decide⟩ ⟨rfl, rfl⟩ rfl rfl (Nat.le_of_ble_eq_true rfl) (by decide +kernel) (fun z hz => c_X12_of hz) (fun v14 => ?_)
    change Sim l G Y_X12_ruled lim _ _ 67 [some (.inr (.inr x0)), some (.inl x1), some (.inl x2)] [.inl v14, .inl v12, .inr (.inr x0)] M11
    refine s_run (b := [(.iadd, 1)]) 68 [some (.inr (.inr x0)), some (.inl x1), some (.inl x2)] [.inl (v12 + v14), .inr (.inr x0)] (by decide +kernel) rfl ?_
    refine s_pI fl_12_232 (Or.inl rfl) rfl (by decide +kernel) (fun M15 => ?_)
    refine s_run (b := [(.aload_n 0, 1)]) 72 [some (.inr (.inr x0)), some (.inl x1), some (.inl x2)] [.inr (.inr x0)] (by decide +kernel) rfl ?_
    refine s_gR fl_12_20 rfl (by decide +kernel) (fun v16 => ?_)
    refine s_run (b := [(.aload_n 0, 1)]) 76 [some (.inr (.inr x0)), some (.inl x1), some (.inl x2)] [.inr (.inr x0), .inr (.inr v16)] (by decide +kernel) rfl ?_
    refine s_gI fl_12_195 rfl (by decide +kernel) (fun v17 => ?_)
    refine s_run (b := [(.dup2, 1)]) 80 [some (.inr (.inr x0)), some (.inl x1), some (.inl x2)] [.inl v17, .inr (.inr v16), .inl v17, .inr (.inr v16)] (by decide +kernel) rfl ?_
    refine s_ia (by decide +kernel) (fun v18 => ?_)
    refine s_run (b := [(.iconst 1, 1), (.iadd, 1)]) 83 [some (.inr (.inr x0)), some (.inl x1), some (.inl x2)] [.inl (v18 + (1 : Int32)), .inl v17, .inr (.inr v16)] (by decide +kernel) rfl ?_
    refine s_is (by decide +kernel) (fun M19 => ?_)
    refine s_run (b := [(.aload_n 0, 1), (.aload_n 0, 1)]) 86 [some (.inr (.inr x0)), some (.inl x1), some (.inl x2)] [.inr (.inr x0), .inr (.inr x0)] (by decide +kernel) rfl ?_
    refine s_gI fl_12_195 rfl (by decide +kernel) (fun v20 => ?_)
    refine s_run (b := [(.iconst 1, 1), (.iadd, 1), (.aload_n 0, 1)]) 92 [some (.inr (.inr x0)), some (.inl x1), some (.inl x2)] [.inr (.inr x0), .inl (v20 + (1 : Int32)), .inr (.inr x0)] (by decide +kernel) rfl ?_
    refine s_gI fl_12_162 rfl (by decide +kernel) (fun v21 => ?_)
    refine s_irem (by decide +kernel) (fun v22 => ?_)
    refine s_pI fl_12_366 (Or.inl rfl) rfl (by decide +kernel) (fun M23 => ?_)
    exact s_vret (by decide +kernel) rfl
set_option maxRecDepth 20000 in
theorem c_X12_ruled {l : Launch} {G : Gv} {M : Mem} {x0 : Nat} {x1 : Int32} {x2 : Int32} {z : Mem} (h : f_X12_ruled M x0 x1 x2 = some z) : MetS l G Y_X12_ruled [.inr (.inr x0), .inl x1, .inl x2] M none z :=
  met_of (ls0 := [some (.inr (.inr x0)), some (.inl x1), some (.inl x2)]) (by decide) rfl (lv_in (m := 0) rfl) (sl_le (Nat.le_of_ble_eq_true rfl)) (by rw [h]; rfl) (Or.inl ⟨rfl, rfl⟩) (S_X12_ruled M x0 x1 x2)
def f_X12_rules_B6 (M : Mem) (x0 : Nat) (x1 : Int32) (x2 : Int32) : Option ((Int32 × Mem) ⊕ ((Mem))) :=
  (gI M 12 x0 13).bind fun v1 =>
  (if v1 ≤ x2 then
    some (.inr M)
  else
    (ob M 12 x0).bind fun _ => (f_X12_ruled M x0 x1 x2).bind fun z3 =>
    some (.inl ((x2 + (1 : Int32)), z3)))
def f_X12_rules_L6 (M : Mem) (x0 : Nat) (x1 : Int32) (x2 : Int32) : Option ((Mem)) := iter (fun s : Int32 × Mem => f_X12_rules_B6 s.2 x0 x1 s.1) 1048576 (x2, M)
set_option maxRecDepth 20000 in
theorem B_X12_rules_6 {l : Launch} {G : Gv} {lim : Nat × Nat} (M : Mem) (x0 : Nat) (x1 : Int32) (x2 : Int32) (K : (Int32 × Mem) ⊕ ((Mem)) → Option (Option Value × Mem)) (kk1 : ∀ (s2 : Int32) (s_ : Mem), SimR l G Y_X12_rules lim (K (.inl (s2, s_))) 6 [some (.inr (.inr x0)), some (.inl x1), some (.inl s2)] [] s_) (kk2_0 : ∀ (s_ : Mem), SimR l G Y_X12_rules lim (K (.inr s_)) 26 [none, none, none] [] s_) : Sim l G Y_X12_rules lim (f_X12_rules_B6 M x0 x1 x2) K 6 [some (.inr (.inr x0)), some (.inl x1), some (.inl x2)] [] M := by
  unfold f_X12_rules_B6
  refine s_run (b := [(.iload_n 2, 1), (.aload_n 0, 1)]) 8 [some (.inr (.inr x0)), some (.inl x1), some (.inl x2)] [.inr (.inr x0), .inl x2] (by decide +kernel) rfl ?_
  refine s_gI fl_12_165 rfl (by decide +kernel) (fun v1 => ?_)
  refine s_ic_ge (tgt := 26) (off := 15) (by decide +kernel) (by decide) (fun h2 => ?_) (fun h2 => ?_)
  · skip
    exact s_lsub (ls' := [none, none, none]) trivial (kk2_0 M)
  · skip
    refine s_run (b := [(.aload_n 0, 1), (.iload_n 1, 1), (.iload_n 2, 1)]) 17 [some (.inr (.inr x0)), some (.inl x1), some (.inl x2)] [.inl x2, .inl x1, .inr (.inr x0)] (by decide +kernel) rfl ?_
    refine s_cV (Z := Y_X12_ruled) (c := 12) (vs := [.inl x1, .inl x2]) (st := []) (rO := fun _ => none) (mO := fun z => z) zk_X12_ruled zi_X12_ruled q1791 rfl ⟨by decide, by decide⟩ ⟨rfl, rfl⟩ rfl rfl (Nat.le_of_ble_eq_true rfl) (by decide +kernel) (fun z hz => c_X12_ruled hz) (fun z3 => ?_)
    change Sim l G Y_X12_rules lim _ _ 20 [some (.inr (.inr x0)), some (.inl x1), some (.inl x2)] [] z3
    refine s_run (b := [(.iinc 2 1, 3), (.goto (-17), 3)]) 6 [some (.inr (.inr x0)), some (.inl x1), some (.inl (x2 + (1 : Int32)))] [] (by decide +kernel) rfl ?_
    exact s_lsub (ls' := [some (.inr (.inr x0)), some (.inl x1), some (.inl (x2 + (1 : Int32)))]) ⟨rfl, ⟨rfl, ⟨rfl, trivial⟩⟩⟩ (kk1 (x2 + (1 : Int32)) z3)
set_option maxRecDepth 20000 in
theorem L_X12_rules_6 {l : Launch} {G : Gv} {lim : Nat × Nat} (M : Mem) (x0 : Nat) (x1 : Int32) (x2 : Int32) (K : ((Mem)) → Option (Option Value × Mem)) (kk2_0 : ∀ r : Mem, SimR l G Y_X12_rules lim (K r) 26 [none, none, none] [] r) : Sim l G Y_X12_rules lim (f_X12_rules_L6 M x0 x1 x2) K 6 [some (.inr (.inr x0)), some (.inl x1), some (.inl x2)] [] M :=
  s_iter (f := fun s : Int32 × Mem => f_X12_rules_B6 s.2 x0 x1 s.1) (hd := 6) (cl := fun s => [some (.inr (.inr x0)), some (.inl x1), some (.inl s.1)]) (cm := fun s => s.2) (xp := fun _ => 26) (xl := fun r => [none, none, none]) (xm := fun r => r) (fun s K h1 h2 => B_X12_rules_6 s.2 x0 x1 s.1 K (fun a2 a_ => h1 (a2, a_)) (fun a_ => h2 a_)) 1048576 (x2, M) K kk2_0
def f_X12_rules (M : Mem) (x0 : Nat) (x1 : Int32) : Option (Mem) :=
  (ob M 12 x0).bind fun _ => (f_X12_beginsRule M x0).bind fun z1 =>
  (f_X12_rules_L6 z1 x0 x1 (0 : Int32)).bind fun r2 =>
  some r2
set_option maxRecDepth 20000 in
theorem S_X12_rules {l : Launch} {G : Gv} {lim : Nat × Nat} (M : Mem) (x0 : Nat) (x1 : Int32) : Sim l G Y_X12_rules lim (f_X12_rules M x0 x1) (fun z => some (none, z)) 0 [some (.inr (.inr x0)), some (.inl x1), none] [] M := by
  unfold f_X12_rules
  refine s_run (b := [(.aload_n 0, 1)]) 1 [some (.inr (.inr x0)), some (.inl x1), none] [.inr (.inr x0)] (by decide +kernel) rfl ?_
  refine s_cV (Z := Y_X12_beginsRule) (c := 12) (vs := []) (st := []) (rO := fun _ => none) (mO := fun z => z) zk_X12_beginsRule zi_X12_beginsRule q1787 rfl ⟨by decide, by decide⟩ ⟨rfl, rfl⟩ rfl rfl (Nat.le_of_ble_eq_true rfl) (by decide +kernel) (fun z hz => c_X12_beginsRule hz) (fun z1 => ?_)
  change Sim l G Y_X12_rules lim _ _ 4 [some (.inr (.inr x0)), some (.inl x1), none] [] z1
  refine s_run (b := [(.iconst 0, 1), (.istore_n 2, 1)]) 6 [some (.inr (.inr x0)), some (.inl x1), some (.inl (0 : Int32))] [] (by decide +kernel) rfl ?_
  refine s_lsub (ls' := [some (.inr (.inr x0)), some (.inl x1), some (.inl (0 : Int32))]) ⟨rfl, ⟨rfl, ⟨rfl, trivial⟩⟩⟩ ?_
  refine sim_bind (L_X12_rules_6 z1 x0 x1 (0 : Int32) _ (fun r2 => ?_))
  change Sim l G Y_X12_rules lim _ _ 26 [none, none, none] [] r2
  exact s_vret (by decide +kernel) rfl
set_option maxRecDepth 20000 in
theorem c_X12_rules {l : Launch} {G : Gv} {M : Mem} {x0 : Nat} {x1 : Int32} {z : Mem} (h : f_X12_rules M x0 x1 = some z) : MetS l G Y_X12_rules [.inr (.inr x0), .inl x1] M none z :=
  met_of (ls0 := [some (.inr (.inr x0)), some (.inl x1), none]) (by decide) rfl (lv_in (m := 1) rfl) (sl_le (Nat.le_of_ble_eq_true rfl)) (by rw [h]; rfl) (Or.inl ⟨rfl, rfl⟩) (S_X12_rules M x0 x1)
